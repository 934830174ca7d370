/** ==== 6 and promises 26 to 30 at their edges; above each test stands the sentence that it holds to. */
public final class ProofEdgesTest {
    private static final int NOW = 5000;
    private static final int MAX = Integer.MAX_VALUE;
    private static final int MIN = Integer.MIN_VALUE;

    public static void main(String[] args) {
        whatCantStand();
        everyByte();
        theEnd();
        wrongEvents();
        tooMany();
        tellsNothing();
        aheadAndBehind();
        soManyDays();
        soManyYears();
        farOff();
        mostAgree();
        noneAgrees();
        sure();
        doubted();
        daysWhenAsked();
        asInBorn();
        refusals();
        Due.end();
    }

    /** Events 0 and 15 on DAYS 1000 and 2000; person 0. */
    private static InquestHall hall() {
        InquestHall x = Due.hallOn(NOW);
        x.person(0, -1, -1, 0, NOW);
        x.event(0, 1000);
        x.event(15, 2000);
        return x;
    }

    private static void proof(InquestHall x, int first, int last, int agree, int sure, int doubted) {
        int[] due = {first, last, agree, sure, doubted};
        for (int what = 0; what < 5; what++) {
            Due.is("proof(0, " + what + ")", x.proof(0, what), due[what]);
        }
    }

    private static void proof(String text, int first, int last, int agree, int sure, int doubted) {
        InquestHall x = hall();
        Due.is("memories of <" + text + ">", Due.memories(x, 0, text) > 0 ? 1 : 0, 1);
        proof(x, first, last, agree, sure, doubted);
    }

    /** "FAULTS likewise: 1": in each kind of MEMORY, in place of each of its TOKENS, one that is none, or the end. */
    private static void whatCantStand() {
        String[] lines = {"before 0 ;", "after 15 ;", "7 days before 0 ;", "7 days after 0 ;", "7 years at 0 off 9 ;"};
        for (String line : lines) {
            InquestHall x = hall();
            Due.is("memories of <" + line + ">", Due.memories(x, 0, line), 1);
            x.forget(0);
            int place = 0;
            for (String token : line.split(" ")) {
                String ahead = line.substring(0, place);
                Due.memoryFault(x, 0, ahead + ".", 1, place);
                Due.memoryFault(x, 0, ahead + "soon" + line.substring(place + token.length()), 1, place);
                Due.memoryFault(x, 0, ahead + "123456", 1, place);
                Due.memoryFault(x, 0, ahead + "in", 1, place);
                Due.memoryFault(x, 0, ahead, 1, place);
                place += token.length() + 1;
            }
            Due.memoryFault(x, 0, line + ";", 1, line.length());
            Due.memoryFault(x, 0, line + "heirs", 1, line.length());
        }
        InquestHall y = hall();
        Due.memoryFault(y, 0, "7 days days 0;", 1, 7);
        Due.memoryFault(y, 0, "7 days not 0;", 1, 7);
        Due.memoryFault(y, 0, "7 years before 0;", 1, 8);
        Due.memoryFault(y, 0, "7 before 0;", 1, 2);
        Due.memoryFault(y, 0, "days before 0;", 1, 0);
        Due.memoryFault(y, 0, "at 0 off 3;", 1, 0);
        Due.memoryFault(y, 0, "before (0);", 1, 7);
        Due.memoryFault(y, 0, "after 0 off 3;", 1, 8);
    }

    /** TOKENS as in a LAW: each of the 256 bytes behind a MEMORY. */
    private static void everyByte() {
        InquestHall x = hall();
        for (int c = 0; c < 256; c++) {
            String text = "after 0;" + (char) c;
            if (c == 32 || c == 10) {
                x = hall();
                Due.is("byte " + c, Due.memories(x, 0, text), 1);
                Due.is("byte " + c, Due.memories(x, 0, (char) c + "after 0;"), 1);
            } else {
                x = c % 40 == 0 ? hall() : x;
                boolean digit = c >= '0' && c <= '9';
                Due.memoryFault(x, 0, text, 1, digit ? 9 : 8);
                x.end(0);
            }
        }
    }

    /** "one or more", "(the end: the text's length)". */
    private static void theEnd() {
        InquestHall x = hall();
        Due.memoryFault(x, 0, "", 1, 0);
        Due.memoryFault(x, 0, " \n ", 1, 3);
        Due.memoryFault(x, 0, "before 0 \n", 1, 10);
        Due.memoryFault(x, 0, "after 0;before", 1, 14);
        Due.memoryFault(x, 0, "before" + " ".repeat(794), 1, 800);
        Due.is("none told", x.proof(0, 2), -1);
        Due.is("blanks behind", Due.memories(x, 0, "before 0;" + " ".repeat(791)), 1);
        Due.is("blanks ahead", Due.memories(x, 0, "\n".repeat(791) + "before 0;"), 1);
        Due.is("none needed", Due.memories(x, 0, "before0;7days after15;7years at0off9;"), 3);
    }

    /** "2 (at the NUMBER) an EVENT that has none, or is above 15". */
    private static void wrongEvents() {
        InquestHall x = hall();
        for (int e : new int[] {1, 14, 16, 99999}) {
            Due.memoryFault(x, 0, "before " + e + ";", 2, 7);
            Due.memoryFault(x, 0, "after " + e, 2, 6);
            Due.memoryFault(x, 0, "7 days before " + e + ";", 2, 14);
            Due.memoryFault(x, 0, "7 days after " + e + " 5", 2, 13);
            Due.memoryFault(x, 0, "7 years at " + e + " off 9;", 2, 11);
            Due.memoryFault(x, 0, "after 0;after 15;after " + e + ";", 2, 23);
        }
        Due.is("other NUMBERS are free", Due.memories(x, 0, "99999 days before 0;99999 years at 15 off 99999;"), 2);
        Due.memoryFault(x, 0, "100000 days before 0;", 1, 0);
        Due.memoryFault(x, 0, "1 years at 0 off 100000;", 1, 17);
        Due.memoryFault(x, 0, "after 000000;", 1, 6);
        Due.is("by five digits", Due.memories(x, 0, "after 00000;after 00015;"), 2);
        x.event(14, 3);
        Due.is("it has one now", Due.memories(x, 0, "before 14;"), 1);
    }

    /** "3 (at its first TOKEN) the 25th MEMORY of that person", "at one place the least". */
    private static void tooMany() {
        InquestHall x = hall();
        Due.is("23", Due.memories(x, 0, "after 0;".repeat(23)), 23);
        Due.memoryFault(x, 0, "after 0;after 0;", 3, 8);
        Due.memoryFault(x, 0, "after 0; \n before 3;", 3, 11);
        Due.memoryFault(x, 0, "after 0;7", 3, 8);
        Due.memoryFault(x, 0, "after 0;days", 1, 8);
        Due.memoryFault(x, 0, "after 0;;", 1, 8);
        Due.memoryFault(x, 0, "after 3;before 0;", 2, 6);
        Due.is("the 24th", Due.memories(x, 0, "after 0;  "), 1);
        Due.memoryFault(x, 0, "after 0;", 3, 0);
        Due.memoryFault(x, 0, "  9 years", 3, 2);
        Due.memoryFault(x, 0, "9x", 3, 0);
        Due.memoryFault(x, 0, "x9", 1, 0);
        Due.memoryFault(x, 0, "", 1, 0);
        x.person(0, -1, -1, 0, 0);
        Due.is("of another", Due.memories(x, 1, "after 0;"), 1);
        Due.yes("forget", x.forget(0));
        Due.memoryFault(x, 0, "after 0;".repeat(25), 3, 192);
        Due.is("24 in one TEXT", Due.memories(x, 0, "after 0;".repeat(24)), 24);
    }

    /** "A TEXT with a FAULT tells nothing.", and what was told ahead stays. */
    private static void tellsNothing() {
        InquestHall x = hall();
        Due.is("one", Due.memories(x, 0, "10 days after 0;"), 1);
        Due.memoryFault(x, 0, "20 days after 0;20 days after 0;after 1;", 2, 38);
        proof(x, 1010, 1010, 1, 1, 0);
        Due.memoryFault(x, 0, "20 days after 0;20 days after 0;20 days after 0", 1, 47);
        proof(x, 1010, 1010, 1, 1, 0);
        Due.is("one more, behind it", Due.memories(x, 0, "30 days after 0;"), 1);
        proof(x, 1010, 1030, 1, 0, 2);
    }

    /** "BORN ahead of its DAY; behind it": not on it. */
    private static void aheadAndBehind() {
        proof("before 0;", 0, 999, 1, 1, 0);
        proof("after 0;", 1001, 29999, 1, 1, 0);
        InquestHall x = hall();
        Due.memories(x, 0, "before 0;");
        x.event(0, 1);
        proof(x, 0, 0, 1, 1, 0);
        x.event(0, 0);
        proof(x, 0, 29999, 0, 0, 1);
        x.event(0, 29999);
        proof(x, 0, 29998, 1, 1, 0);
        InquestHall y = hall();
        Due.memories(y, 0, "after 0;");
        y.event(0, 29998);
        proof(y, 29999, 29999, 1, 1, 0);
        y.event(0, 29999);
        proof(y, 0, 29999, 0, 0, 1);
        y.event(0, 0);
        proof(y, 1, 29999, 1, 1, 0);
    }

    /** "so many DAYS ahead of it, behind it". */
    private static void soManyDays() {
        proof("0 days before 0;", 1000, 1000, 1, 1, 0);
        proof("0 days after 0;", 1000, 1000, 1, 1, 0);
        proof("1 days before 0;", 999, 999, 1, 1, 0);
        proof("1 days after 0;", 1001, 1001, 1, 1, 0);
        proof("1000 days before 0;", 0, 0, 1, 1, 0);
        proof("1001 days before 0;", 0, 29999, 0, 0, 1);
        proof("28999 days after 0;", 29999, 29999, 1, 1, 0);
        proof("29000 days after 0;", 0, 29999, 0, 0, 1);
        proof("99999 days before 0;", 0, 29999, 0, 0, 1);
        proof("99999 days after 0;", 0, 29999, 0, 0, 1);
    }

    /** "so many YEARS ahead of it, off by so many DAYS at most". */
    private static void soManyYears() {
        proof("1 years at 0 off 0;", 640, 640, 1, 1, 0);
        proof("0 years at 0 off 1;", 999, 1001, 1, 1, 0);
        proof("2 years at 0 off 280;", 0, 560, 1, 1, 0);
        proof("2 years at 0 off 281;", 0, 561, 1, 1, 0);
        proof("3 years at 0 off 79;", 0, 29999, 0, 0, 1);
        proof("3 years at 0 off 80;", 0, 0, 1, 1, 0);
        proof("3 years at 0 off 81;", 0, 1, 1, 1, 0);
        proof("0 years at 0 off 28999;", 0, 29999, 1, 1, 0);
        proof("0 years at 0 off 28998;", 0, 29998, 1, 1, 0);
        proof("0 years at 0 off 99999;", 0, 29999, 1, 1, 0);
        proof("5 years at 15 off 10;", 190, 210, 1, 1, 0);
    }

    /** The greatest NUMBERS, from the last DAY there is. */
    private static void farOff() {
        InquestHall x = hall();
        x.event(3, 29999);
        Due.memories(x, 0, "99999 years at 3 off 99999;");
        proof(x, 0, 29999, 0, 0, 1);
        x.forget(0);
        Due.memories(x, 0, "361 years at 3 off 99999;");
        proof(x, 0, 29999 - 361 * 360 + 99999, 1, 1, 0);
        x.forget(0);
        Due.memories(x, 0, "99999 days after 3;29999 days before 3;");
        proof(x, 0, 0, 1, 1, 1);
        x.forget(0);
        Due.memories(x, 0, "83 years at 3 off 119;");
        proof(x, 0, 238, 1, 1, 0);
        x.forget(0);
        Due.memories(x, 0, "83 years at 3 off 118;");
        proof(x, 1, 237, 1, 1, 0);
    }

    /** "the DAYS 0 .. 29999 with which the most MEMORIES agree: the first one, the last one, how many agree". */
    private static void mostAgree() {
        proof("before 15;after 0;", 1001, 1999, 2, 1, 0);
        proof("before 0;after 15;", 0, 29999, 1, 0, 2);
        proof("before 0;after 0;", 0, 29999, 1, 0, 2);
        proof("after 15;before 0;", 0, 29999, 1, 0, 1);
        proof("before 15;before 0;1 years at 0 off 5;", 635, 645, 3, 1, 0);
        proof("10 days after 0;10 days before 15;after 0;before 15;", 1010, 1990, 3, 0, 2);
        proof("after 0;after 0;before 0;", 1001, 29999, 2, 1, 4);
        proof("0 years at 0 off 10;0 years at 0 off 20;0 years at 0 off 30;", 990, 1010, 3, 1, 0);
        proof("0 days after 0;0 days after 0;0 days after 15;0 days after 15;", 1000, 2000, 2, 0, 12);
        proof("0 days after 15;0 days after 15;0 days after 0;0 days after 0;", 1000, 2000, 2, 0, 3);
    }

    /** "It is SURE, if one agrees at least": if none does, all DAYS are such, and it is not. */
    private static void noneAgrees() {
        proof("99999 days after 0;", 0, 29999, 0, 0, 1);
        proof("99999 days after 0;99999 days before 0;", 0, 29999, 0, 0, 3);
        InquestHall x = hall();
        Due.memories(x, 0, "99999 days after 0;");
        Due.no("proved", x.proved(0));
        Due.is("of(0, 3)", x.of(0, 3), 0);
        Due.is("of(0, 4)", x.of(0, 4), NOW);
    }

    /** "and all DAYS between are such, too": spans that touch, that lie a DAY apart, that have one DAY in common. */
    private static void sure() {
        for (int gap = -1; gap <= 1; gap++) {
            InquestHall x = hall();
            x.event(1, 1100);
            x.event(2, 1301 + gap);
            Due.memories(x, 0, "0 years at 1 off 100;0 years at 2 off 100;");
            if (gap < 0) {
                proof(x, 1200, 1200, 2, 1, 0);
            } else {
                proof(x, 1000, 1401 + gap, 1, gap == 0 ? 1 : 0, 2);
            }
        }
        // three spans in a row, the middle one two DAYS long, or gone
        InquestHall y = hall();
        y.event(1, 100);
        y.event(2, 110);
        y.event(3, 102);
        Due.memories(y, 0, "0 years at 1 off 4;0 years at 2 off 4;0 years at 3 off 0;");
        proof(y, 102, 102, 2, 1, 2);
        y.event(3, 105);
        proof(y, 96, 114, 1, 1, 6);
        y.event(3, 115);
        proof(y, 96, 115, 1, 0, 6);
        y.event(2, 109);
        proof(y, 96, 115, 1, 0, 6);
        y.event(3, 114);
        proof(y, 96, 114, 1, 1, 6);
        InquestHall z = hall();
        Due.memories(z, 0, "before 0;after 0;0 days after 0;");
        proof(z, 0, 29999, 1, 1, 6);
    }

    /** "DOUBTED are those that do not agree with the first one", "MEMORY m counts 2 to the m". */
    private static void doubted() {
        for (int m = 0; m < 24; m++) {
            InquestHall x = hall();
            Due.memories(x, 0, "after 0;".repeat(m) + "before 0;" + "after 0;".repeat(23 - m));
            proof(x, 1001, 29999, 23, 1, 1 << m);
        }
        InquestHall y = hall();
        Due.memories(y, 0, "before 0;".repeat(12) + "after 0;".repeat(12));
        proof(y, 0, 29999, 12, 0, 0xfff000);
        y.event(0, 29999);
        proof(y, 0, 29998, 12, 1, 0xfff000);
    }

    /** "(EVENTS' DAYS count as they are when it is asked.)" */
    private static void daysWhenAsked() {
        InquestHall x = hall();
        Due.memories(x, 0, "5 days before 0;1 years at 15 off 1;");
        proof(x, 995, 1641, 1, 0, 2);
        x.event(0, 1645);
        proof(x, 1640, 1640, 2, 1, 0);
        x.event(15, 2002);
        proof(x, 1640, 1643, 1, 1, 2);
        Due.yes("proved", x.proved(0));
        Due.is("of(0, 3)", x.of(0, 3), 1640);
        Due.is("of(0, 4)", x.of(0, 4), 1643);
        x.event(0, 4);
        proof(x, 1641, 1643, 1, 1, 1);
        Due.is("BORN stays as it was proved", x.of(0, 3), 1640);
    }

    /** "false, and nothing is done, if it is not SURE, or that can't be (as in born())". */
    private static void asInBorn() {
        for (int late = -1; late <= 1; late++) {
            InquestHall x = hall();
            x.event(0, NOW + late);
            Due.memories(x, 0, "0 days after 0;");
            Due.is("BORN by NOW + " + late, x.proved(0) ? 1 : 0, late > 0 ? 0 : 1);
            Due.is("of(0, 3)", x.of(0, 3), late > 0 ? 0 : NOW + late);
            Due.is("of(0, 4)", x.of(0, 4), late > 0 ? NOW : NOW + late);
            InquestHall y = hall();
            y.dies(0, 1000);
            y.event(0, 1000 + late);
            Due.memories(y, 0, "0 years at 0 off 0;");
            Due.is("DIED, BORN so many behind: " + late, y.proved(0) ? 1 : 0, late > 0 ? 0 : 1);
            Due.is("of(0, 3)", y.of(0, 3), late > 0 ? 0 : 1000 + late);
        }
        InquestHall z = hall();
        Due.no("without MEMORIES", z.proved(0));
        Due.memories(z, 0, "after 0;");
        Due.no("up to 29999", z.proved(0));
        Due.is("its MEMORIES stay", z.of(0, 7), 1);
    }

    /** "NONE if there is none such, or another what; for 0 .. 4 without MEMORIES." */
    private static void refusals() {
        InquestHall x = hall();
        for (int what : new int[] {-1, 0, 1, 2, 3, 4, 5, MAX, MIN}) {
            Due.is("without MEMORIES, what " + what, x.proof(0, what), -1);
        }
        Due.memories(x, 0, "before 0;");
        for (int p : new int[] {-1, 1, 32, MAX, MIN}) {
            Due.is("proof(" + p + ", 0)", x.proof(p, 0), -1);
            Due.is("memories(" + p + ")", Due.memories(x, p, "before 0;"), -1);
            Due.no("proved(" + p + ")", x.proved(p));
            Due.no("forget(" + p + ")", x.forget(p));
        }
        for (int what : new int[] {-1, 5, MAX, MIN}) {
            Due.is("proof(0, " + what + ")", x.proof(0, what), -1);
        }
        Due.is("what 0", x.proof(0, 0), 0);
        x.forget(0);
        Due.is("forgotten", x.proof(0, 0), -1);
    }
}
