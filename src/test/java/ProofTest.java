/** Promises 26 to 30: event, memories, forget, proof, proved (and fault, of memories). */
public final class ProofTest {
    public static void main(String[] args) {
        events();
        faults();
        tooMany();
        spans();
        proofs();
        proved();
        Due.end();
    }

    private static InquestHall hall() {
        InquestHall x = Due.hallOn(5000);
        x.person(0, -1, -1, 0, 5000);
        x.person(1, -1, -1, 0, 5000);
        x.event(0, 1000);
        x.event(15, 2000);
        return x;
    }

    private static void events() {
        InquestHall x = new InquestHall();
        Due.no("event(16, 0)", x.event(16, 0));
        Due.no("event(-1, 0)", x.event(-1, 0));
        Due.no("event(0, 30000)", x.event(0, 30000));
        Due.no("event(0, -1)", x.event(0, -1));
        x.person(0, -1, -1, 0, 0);
        Due.memoryFault(x, 0, "before 0;", 2, 7);
        Due.yes("event(0, 29999)", x.event(0, 29999));
        Due.yes("event(15, 0)", x.event(15, 0));
        Due.is("both", Due.memories(x, 0, "before 0;after 15;"), 2);
        Due.is("first", x.proof(0, 0), 1);
        Due.is("last", x.proof(0, 1), 29998);
    }

    private static void faults() {
        InquestHall x = hall();
        Due.memoryFault(x, 0, "", 1, 0);
        Due.memoryFault(x, 0, " \n ", 1, 3);
        Due.memoryFault(x, 0, ";", 1, 0);
        Due.memoryFault(x, 0, "before;", 1, 6);
        Due.memoryFault(x, 0, "before 0", 1, 8);
        Due.memoryFault(x, 0, "before 0;;", 1, 9);
        Due.memoryFault(x, 0, "before 0;soon", 1, 9);
        Due.memoryFault(x, 0, "Before 0;", 1, 0);
        Due.memoryFault(x, 0, "heirs 0;", 1, 0);
        Due.memoryFault(x, 0, "5;", 1, 1);
        Due.memoryFault(x, 0, "5 days 0;", 1, 7);
        Due.memoryFault(x, 0, "5 days at 0;", 1, 7);
        Due.memoryFault(x, 0, "5 days before days;", 1, 14);
        Due.memoryFault(x, 0, "5 years before 0;", 1, 8);
        Due.memoryFault(x, 0, "5 years at 0;", 1, 12);
        Due.memoryFault(x, 0, "5 years at 0 of 3;", 1, 13);
        Due.memoryFault(x, 0, "5 years at 0 off;", 1, 16);
        Due.memoryFault(x, 0, "123456 days before 0;", 1, 0);
        Due.memoryFault(x, 0, "5 days before 000000;", 1, 14);
        Due.memoryFault(x, 0, "before 1;", 2, 7);
        Due.memoryFault(x, 0, "before 16;", 2, 7);
        Due.memoryFault(x, 0, "before 99999;", 2, 7);
        Due.memoryFault(x, 0, "after 1", 2, 6);
        Due.memoryFault(x, 0, "5 days before 1;", 2, 14);
        Due.memoryFault(x, 0, "5 days after 16;", 2, 13);
        Due.memoryFault(x, 0, "5 years at 1 off 3;", 2, 11);
        Due.memoryFault(x, 0, "before 0;after 15;before 7 7", 2, 25);
        Due.is("tells nothing", x.proof(0, 0), -1);
        Due.is("nobody", Due.memories(x, 2, "before 0;"), -1);
        Due.no("the TAPE is empty", x.end(1));
        Due.is("fault stays", x.fault(1), 25);
        Due.is("well", Due.memories(x, 0, "before0;5days before 00015;99999 years at 0 off 99999;\n"), 3);
        Due.no("the TAPE is empty", x.end(1));
        Due.is("fault(0)", x.fault(0), 0);
        Due.is("fault(1)", x.fault(1), -1);
    }

    private static void tooMany() {
        InquestHall x = hall();
        Due.memoryFault(x, 0, "after 0;".repeat(25), 3, 192);
        Due.is("20", Due.memories(x, 0, "after 0;".repeat(20)), 20);
        Due.is("one's own", Due.memories(x, 1, "after 0;".repeat(24)), 24);
        Due.memoryFault(x, 0, "after 0;".repeat(5), 3, 32);
        Due.memoryFault(x, 0, "after 0;".repeat(4) + "soon", 1, 32);
        Due.memoryFault(x, 0, "after 0;".repeat(4) + "5", 3, 32);
        Due.is("4", Due.memories(x, 0, "after 0;".repeat(4) + " "), 4);
        Due.memoryFault(x, 0, " after", 3, 1);
        Due.memoryFault(x, 0, "", 1, 0);
        Due.is("of(0, 7)", x.of(0, 7), 24);
        Due.is("doubted", x.proof(0, 4), 0);
        Due.yes("forget", x.forget(0));
        Due.is("of(0, 7)", x.of(0, 7), 0);
        Due.is("of(1, 7)", x.of(1, 7), 24);
        Due.yes("forget again", x.forget(0));
        Due.no("forget(2)", x.forget(2));
        Due.no("forget(-1)", x.forget(-1));
        Due.is("24", Due.memories(x, 0, "before 0;".repeat(24)), 24);
        Due.is("all agree", x.proof(0, 2), 24);
        x.event(0, 0);
        Due.is("none agrees", x.proof(0, 2), 0);
        Due.is("all doubted", x.proof(0, 4), (1 << 24) - 1);
    }

    private static void span(String text, int first, int last) {
        InquestHall x = hall();
        Due.is(text, Due.memories(x, 0, text), 1);
        Due.is("first of " + text, x.proof(0, 0), first);
        Due.is("last of " + text, x.proof(0, 1), last);
        Due.is("how many of " + text, x.proof(0, 2), 1);
        Due.is("sure of " + text, x.proof(0, 3), 1);
        Due.is("doubted of " + text, x.proof(0, 4), 0);
    }

    private static void spans() {
        span("before 0;", 0, 999);
        span("after 0;", 1001, 29999);
        span("10 days before 0;", 990, 990);
        span("10 days after 0;", 1010, 1010);
        span("0 days after 0;", 1000, 1000);
        span("1000 days before 0;", 0, 0);
        span("27999 days after 15;", 29999, 29999);
        span("2 years at 0 off 5;", 275, 285);
        span("0 years at 0 off 0;", 1000, 1000);
        span("3 years at 0 off 90;", 0, 10);
        span("0 years at 0 off 99999;", 0, 29999);
        InquestHall x = hall();
        Due.memories(x, 0, "1001 days before 0;28000 days after 15;99999 years at 0 off 9;");
        Due.is("none agrees: first", x.proof(0, 0), 0);
        Due.is("none agrees: last", x.proof(0, 1), 29999);
        Due.is("none agrees: how many", x.proof(0, 2), 0);
        Due.is("none agrees: sure", x.proof(0, 3), 0);
        Due.is("none agrees: doubted", x.proof(0, 4), 7);
        Due.no("none agrees: proved", x.proved(0));
    }

    private static void proofs() {
        InquestHall x = hall();
        Due.is("without any", x.proof(0, 0), -1);
        Due.is("without any", x.proof(0, 3), -1);
        Due.is("nobody", x.proof(2, 0), -1);
        Due.is("nobody", x.proof(-1, 0), -1);
        Due.memories(x, 0, "0 years at 0 off 100;0 years at 15 off 100;after 0;");
        Due.is("first", x.proof(0, 0), 1001);
        Due.is("last", x.proof(0, 1), 2100);
        Due.is("how many", x.proof(0, 2), 2);
        Due.is("not sure", x.proof(0, 3), 0);
        Due.is("doubted", x.proof(0, 4), 2);
        Due.is("proof(0, 5)", x.proof(0, 5), -1);
        Due.is("proof(0, -1)", x.proof(0, -1), -1);
        Due.is("of another", x.proof(1, 0), -1);
        // spans that touch leave no gap, those a DAY apart do
        x.event(15, 1201);
        Due.is("touching: sure", x.proof(0, 3), 1);
        Due.is("touching: last", x.proof(0, 1), 1301);
        x.event(15, 1202);
        Due.is("a gap: not sure", x.proof(0, 3), 0);
        Due.is("a gap: first", x.proof(0, 0), 1001);
        x.event(15, 1200);
        Due.is("one in common", x.proof(0, 2), 3);
        Due.is("first", x.proof(0, 0), 1100);
        Due.is("last", x.proof(0, 1), 1100);
        Due.is("doubted", x.proof(0, 4), 0);
    }

    private static void proved() {
        InquestHall x = hall();
        Due.no("without any", x.proved(0));
        Due.no("nobody", x.proved(2));
        Due.no("nobody", x.proved(-1));
        Due.memories(x, 0, "after 0;before 15;");
        Due.yes("proved", x.proved(0));
        Due.is("of(0, 3)", x.of(0, 3), 1001);
        Due.is("of(0, 4)", x.of(0, 4), 1999);
        x.event(15, 5001);
        Due.yes("up to NOW", x.proved(0));
        Due.is("of(0, 4)", x.of(0, 4), 5000);
        x.event(15, 5002);
        Due.no("above NOW", x.proved(0));
        Due.is("of(0, 4)", x.of(0, 4), 5000);
        x.event(15, 3000);
        x.event(0, 2000);
        Due.yes("dies", x.dies(0, 2001));
        Due.yes("on the DAY of death", x.proved(0));
        x.event(0, 2001);
        Due.no("behind death", x.proved(0));
        Due.is("of(0, 3)", x.of(0, 3), 2001);
        Due.memories(x, 1, "5 days before 0;");
        Due.yes("by one", x.proved(1));
        Due.is("of(1, 3)", x.of(1, 3), 1996);
        x.born(1, 0, 5000);
        Due.memories(x, 1, "5 days after 0;");
        Due.no("not sure", x.proved(1));
        Due.is("of(1, 4)", x.of(1, 4), 5000);
    }
}
