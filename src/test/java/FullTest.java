/** All that has a limit, filled to it: the last one is as good as the first, and the one behind it is refused. */
public final class FullTest {
    public static void main(String[] args) {
        people();
        heirsOfMany();
        lands();
        reigns();
        seizings();
        seizingsAtADeath();
        memories();
        events();
        juries();
        Due.end();
    }

    /** "PEOPLE 0 .. 31", "or there are 32". */
    private static void people() {
        InquestHall x = Due.hallOn(100);
        for (int p = 0; p < 32; p++) {
            Due.is("person " + p, x.person(p % 2, p > 1 && p % 2 == 0 ? p - 2 : -1, p > 1 ? 1 : -1, p, 2 * p), p);
        }
        Due.is("the 33rd", x.person(0, -1, -1, 0, 0), -1);
        Due.is("the 33rd, wrong besides", x.person(2, -1, -1, 0, 0), -1);
        Due.is("the 33rd, a child of the last", x.person(0, -1, 31, 0, 0), -1);
        Due.yes("marry(30, 31)", x.marry(30, 31));
        Due.yes("dies(30, 70)", x.dies(30, 70));
        Due.yes("born(31, 0, 100)", x.born(31, 0, 100));
        long[][] due = {{0, -1, -1, 0, 0, -1, -1, 0}, {0, 28, 1, 30, 60, 70, 31, 0}, {1, -1, 1, 0, 100, -1, -1, 0}};
        for (int what = 0; what < 8; what++) {
            Due.is("of(0, " + what + ")", x.of(0, what), due[0][what]);
            Due.is("of(30, " + what + ")", x.of(30, what), due[1][what]);
            Due.is("of(31, " + what + ")", x.of(31, what), due[2][what]);
        }
        Due.is("of(32, 0)", x.of(32, 0), -1);
        Due.no("dies(32, 5)", x.dies(32, 5));
        Due.no("born(32, 5, 5)", x.born(32, 5, 5));
        Due.no("marry(30, 32)", x.marry(30, 32));
        Due.no("forget(32)", x.forget(32));
        Due.yes("forget(31)", x.forget(31));
    }

    /** As many HEIRS as can be, the last one among them. */
    private static void heirsOfMany() {
        InquestHall x = Due.hallOn(9000);
        Due.law(x, 0, "heirs youngest;ward knight until 40 to lord;relief share+heirs;heirs all in 3;heirs eldest in 1;");
        x.person(0, -1, -1, 0, 0);
        for (int p = 1; p < 32; p++) {
            x.person(0, 0, -1, 1000 + p, 2000 + p);
        }
        x.land(3, 1, -1);
        x.land(2, 0, 31);
        x.land(1, 0, 31);
        x.dies(0, 8000);
        Due.is("31 heirs", x.heirs(0, 0), 31);
        for (int what = 0; what < 6; what++) {
            Due.is("share(0, 0, 31, " + what + ")", x.share(0, 0, 31, what), what % 2 == 0 ? 1 : 31);
        }
        Due.is("a 31st is 3 hundredths", x.relief(0, 0, 31), 34);
        Due.is("the youngest", x.share(0, 1, 31, 0), 1);
        Due.is("LEAST", x.share(0, 1, 31, 2), 0);
        Due.is("MOST", x.share(0, 1, 31, 4), 1);
        Due.is("MOST of the first", x.share(0, 1, 1, 4), 1);
        Due.is("his ward", x.ward(0, 1, 31, 0), 1);
        Due.is("of himself", x.ward(0, 1, 31, 3), 31);
        Due.is("the eldest", x.share(0, 2, 1, 0), 1);
        Due.is("MOST of the last", x.share(0, 2, 31, 4), 1);
        Due.is("the 33rd", x.share(0, 0, 32, 0), -1);
        Due.is("the 33rd", x.ward(0, 0, 32, 0), -2);
        Due.is("the 33rd", x.relief(0, 0, 32), -1);
        Due.is("the 33rd", x.heirs(32, 0), -1);
    }

    /** "LANDS 0 .. 11", "or there are 12"; "ACRES 0 .. 5". */
    private static void lands() {
        InquestHall x = new InquestHall();
        x.person(0, -1, -1, 0, 0);
        for (int l = 0; l < 12; l++) {
            Due.is("land " + l, x.land(l % 4, l % 3, l % 2 - 1), l);
            for (int a = 0; a < 6; a++) {
                Due.yes("acre " + a + " of " + l, x.acre(l, a, 6 * l + a, 99 - 6 * l - a));
            }
        }
        Due.is("the 13th", x.land(0, 0, -1), -1);
        Due.is("the 13th, wrong besides", x.land(4, 0, -1), -1);
        for (int l = 0; l < 12; l += 11) {
            Due.is("SHIRE of " + l, x.landOf(l, 0), l % 4);
            Due.is("SERVICE of " + l, x.landOf(l, 1), l % 3);
            Due.is("LORD of " + l, x.landOf(l, 2), l % 2 - 1);
            Due.is("WORTH of " + l, x.landOf(l, 3), 36 * l + 15);
            for (int a = 0; a < 6; a++) {
                Due.is("WORTH of acre " + a + " of " + l, x.landOf(l, 10 + a), 6 * l + a);
                Due.is("PLACE of acre " + a + " of " + l, x.landOf(l, 20 + a), 99 - 6 * l - a);
            }
        }
        Due.is("landOf(12, 0)", x.landOf(12, 0), -1);
        Due.no("acre(12, 0, 1, 1)", x.acre(12, 0, 1, 1));
        Due.is("heirs(0, 12)", x.heirs(0, 12), -1);
        Due.is("seize(12, 0, 0, -1, -1)", x.seize(12, 0, 0, -1, -1), -1);
        Due.is("holder(12, 0, 0)", x.holder(12, 0, 0), -3);
        Due.is("chain(12, 0)", x.chain(12, 0), -2);
        Due.no("find(0, 12, 0)", x.find(0, 12, 0));
        Due.no("find(0, 0, 12)", x.find(0, 0, 12));
        Due.no("unsay(0, 12)", x.unsay(0, 12));
    }

    /** "REIGNS 0 .. 3", "or there are 4". */
    private static void reigns() {
        InquestHall x = new InquestHall();
        for (int r = 1; r < 4; r++) {
            Due.is("reign " + r, x.reign(1000 * r), r);
        }
        Due.is("the 5th", x.reign(29999), -1);
        for (int r = 0; r < 4; r++) {
            Due.is("reads(" + r + ")", Due.law(x, r, "writ " + r + ";"), 1);
        }
        Due.is("reads(4)", Due.law(x, 4, "writ 4;"), -1);
        for (int r = 0; r < 4; r++) {
            Due.is("from " + 1000 * r, x.lawOn(1000 * r, 3), r);
            Due.is("up to " + (1000 * r + 999), x.lawOn(1000 * r + 999, 3), r);
        }
        Due.is("the last DAY", x.lawOn(29999, 0), 3);
    }

    private static InquestHall hundred() {
        InquestHall x = Due.hallOn(500);
        x.person(0, -1, -1, 0, 0);
        x.land(0, 0, -1);
        for (int e = 0; e < 100; e++) {
            Due.is("seize " + e, x.seize(0, e % 2 - 1, e, e / 2 == 0 ? -1 : e / 2, -1), e);
        }
        return x;
    }

    /** "SEIZINGS 0 .. 99", "or there are 100". */
    private static void seizings() {
        InquestHall x = hundred();
        Due.is("the 101st", x.seize(0, 0, 0, -1, -1), -1);
        Due.is("the 101st, wrong besides", x.seize(0, 0, 0, 100, -1), -1);
        Due.is("seizing(99, 2)", x.seizing(99, 2), 99);
        Due.is("seizing(99, 4)", x.seizing(99, 4), 49);
        Due.is("seizing(100, 0)", x.seizing(100, 0), -2);
        Due.is("traverse(100)", x.traverse(100), -1);
        Due.is("holder", x.holder(0, 29999, 500), 0);
        Due.is("one alone", x.traverse(99), 1);
        Due.is("holder then", x.holder(0, 29999, 500), -1);
        // 3, 6, 7, 12 .. 15, 24 .. 31, 48 .. 63, 96 .. 98: on 3, and on these
        Due.is("3 and all that hang on it", x.traverse(3), 1 + 2 + 4 + 8 + 16 + 3);
        Due.is("VOID ones make no room", x.seize(0, 0, 0, -1, -1), -1);
    }

    /** The 101st is refused at a death, too, in time or too late. */
    private static void seizingsAtADeath() {
        InquestHall x = hundred();
        x.dies(0, 0);
        Due.is("in time", x.seize(0, 0, 0, -1, 0), -1);
        Due.law(x, 0, "writ 1;");
        Due.is("too late", x.seize(0, 0, 0, -1, 0), -1);
        Due.is("seizing(99, 5)", x.seizing(99, 5), -1);
        Due.is("seizing(0, 5)", x.seizing(0, 5), -1);
    }

    /** "MEMORIES of one's birth, 24 at most", of each of all PEOPLE. */
    private static void memories() {
        InquestHall x = Due.hallOn(100);
        for (int p = 0; p < 32; p++) {
            x.person(0, -1, -1, 0, 100);
        }
        for (int e = 0; e < 16; e++) {
            x.event(e, e);
        }
        Due.is("24 of the last", Due.memories(x, 31, "after 00015;".repeat(23) + "before 0;"), 24);
        Due.is("24 of the first", Due.memories(x, 0, "0 days after 7;".repeat(24)), 24);
        Due.is("of(31, 7)", x.of(31, 7), 24);
        Due.is("of(30, 7)", x.of(30, 7), 0);
        Due.memoryFault(x, 31, "after 0;", 3, 0);
        Due.is("how many agree", x.proof(31, 2), 23);
        Due.is("DOUBTED, the 24th", x.proof(31, 4), 1 << 23);
        Due.is("of the first: first", x.proof(0, 0), 7);
        Due.is("of the first: how many", x.proof(0, 2), 24);
        Due.is("of(31, 7)", x.of(31, 7), 24);
        Due.yes("forget", x.forget(31));
        Due.is("room again", Due.memories(x, 31, "after 0;"), 1);
        Due.is("of the first: how many", x.proof(0, 2), 24);
    }

    /** "EVENTS 0 .. 15 have a DAY (told; in place of what was)". */
    private static void events() {
        InquestHall x = Due.hallOn(100);
        x.person(0, -1, -1, 0, 100);
        for (int e = 0; e < 16; e++) {
            Due.memoryFault(x, 0, "0 days after " + e + ";", 2, 13);
            Due.yes("event " + e, x.event(e, 1000 + e));
        }
        for (int e = 0; e < 16; e++) {
            Due.is("by event " + e, Due.memories(x, 0, "0 days after " + e + ";"), 1);
            Due.is("first", x.proof(0, 0), 1000 + e);
            Due.yes("in place of what was", x.event(e, 2000 + e));
            Due.is("first then", x.proof(0, 0), 2000 + e);
            x.forget(0);
        }
        Due.memoryFault(x, 0, "0 days after 16;", 2, 13);
    }

    /** "JURIES 0 .. 9", all LANDS spoken of by all. */
    private static void juries() {
        InquestHall x = new InquestHall();
        for (int l = 0; l < 12; l++) {
            x.land(0, 0, -1);
        }
        for (int j = 0; j < 10; j++) {
            for (int l = 0; l < 12; l++) {
                Due.yes("find(" + j + ", " + l + ")", x.find(j, l, l == 11 ? -1 : l + 1));
            }
        }
        Due.is("no quarrel", x.quarrel(0), 0);
        for (int i = 0; i < 11; i++) {
            Due.is("chain(0, " + i + ")", x.chain(0, i), i + 1);
        }
        Due.is("chain(0, 11)", x.chain(0, 11), -1);
        x.find(9, 11, 0);
        Due.is("a ring of all twelve, and two unlike things", x.quarrel(1), 512);
        x.find(8, 11, 0);
        Due.is("of 8 and 9", x.quarrel(1), 768);
        for (int j = 0; j < 8; j++) {
            x.find(j, 11, 0);
        }
        Due.is("the ring is each one's", x.quarrel(1), 1023);
        Due.is("all ten", x.quarrel(2), 10);
        Due.is("none is left", x.chain(0, 0), -1);
        for (int j = 0; j < 10; j++) {
            for (int l = 0; l < 12; l++) {
                Due.yes("unsay(" + j + ", " + l + ")", x.unsay(j, l));
            }
        }
        Due.is("no quarrel", x.quarrel(0), 0);
    }
}
