/** ==== 7 and promises 31 to 34 at their edges; above each test stands the sentence that it holds to. */
public final class JuriesEdgesTest {
    private static final int MAX = Integer.MAX_VALUE;
    private static final int MIN = Integer.MIN_VALUE;

    public static void main(String[] args) {
        nothingFound();
        latestWord();
        twoUnlikeThings();
        aRing();
        ofTheRest();
        allTheirWords();
        theFewest();
        leastNumber();
        chain();
        chainOfTheRest();
        unsay();
        refusals();
        Due.end();
    }

    private static InquestHall hall(int lands) {
        InquestHall x = new InquestHall();
        for (int l = 0; l < lands; l++) {
            x.land(0, 0, -1);
        }
        return x;
    }

    private static void weighed(String of, InquestHall x, int set) {
        Due.is(of + ": quarrel(0)", x.quarrel(0), set == 0 ? 0 : 1);
        Due.is(of + ": quarrel(1)", x.quarrel(1), set);
        Due.is(of + ": quarrel(2)", x.quarrel(2), Integer.bitCount(set));
    }

    /** Without a word: no QUARREL, the empty set, no CHAIN; even without a LAND. */
    private static void nothingFound() {
        weighed("no LAND", hall(0), 0);
        InquestHall x = hall(12);
        weighed("no word", x, 0);
        for (int l = 0; l < 12; l++) {
            Due.is("chain(" + l + ", 0)", x.chain(l, 0), -1);
            Due.is("chain(" + l + ", 11)", x.chain(l, 11), -1);
        }
    }

    /** "each one's latest word of a LAND counts": one JURY alone is never at odds with itself, but by a ring. */
    private static void latestWord() {
        InquestHall x = hall(3);
        x.find(9, 0, 1);
        x.find(9, 0, 2);
        weighed("told anew", x, 0);
        Due.is("chain", x.chain(0, 0), 2);
        x.find(9, 0, -1);
        Due.is("the KING", x.chain(0, 0), -1);
        x.find(0, 0, 1);
        weighed("another", x, 1);
        x.find(9, 0, 1);
        weighed("it comes round", x, 0);
        x.find(9, 1, 0);
        weighed("a ring of its own", x, 1 << 9);
        x.find(9, 1, 2);
        weighed("told anew", x, 0);
    }

    /** "if of a LAND two unlike things are found": two LANDS, or a LAND and the KING; not the same twice. */
    private static void twoUnlikeThings() {
        InquestHall x = hall(12);
        x.find(0, 11, -1);
        x.find(9, 11, -1);
        weighed("the KING twice", x, 0);
        x.find(9, 11, 0);
        weighed("the KING and LAND 0", x, 1);
        x.find(0, 11, 10);
        weighed("LANDS 10 and 0", x, 1);
        x.find(0, 11, 0);
        weighed("LAND 0 twice", x, 0);
        x.find(0, 10, 0);
        weighed("of another LAND", x, 0);
        x.unsay(0, 11);
        x.find(9, 11, 5);
        weighed("of different LANDS", x, 0);
    }

    /** "or LANDS are held of one another in a ring": of two up to twelve LANDS, with a way into it, and without. */
    private static void aRing() {
        for (int size = 2; size <= 12; size++) {
            InquestHall x = hall(12);
            for (int l = 0; l + 1 < size; l++) {
                x.find(l % 2, l, l + 1);
            }
            weighed("a row of " + size, x, 0);
            x.find(5, size - 1, 0);
            weighed("a ring of " + size, x, 1);
            x.find(5, size - 1, -1);
            weighed("the KING instead", x, 0);
        }
        InquestHall y = hall(12);
        for (int l = 0; l < 10; l++) {
            y.find(3, l, l + 1);
        }
        y.find(4, 10, 11);
        weighed("a way of twelve", y, 0);
        y.find(4, 11, 10);
        weighed("into a ring of two", y, 1 << 4);
        y.find(4, 11, -1);
        y.find(4, 10, 9);
        weighed("into a ring of two JURIES", y, 1 << 3);
        y.find(4, 10, -1);
        weighed("out again", y, 0);
    }

    /** "so that the rest do not QUARREL": a ring that the rest make, too. */
    private static void ofTheRest() {
        InquestHall x = hall(4);
        x.find(0, 0, 1);
        x.find(1, 1, 2);
        x.find(2, 2, 0);
        weighed("three in a ring", x, 1);
        x.find(3, 0, 1);
        weighed("two say the same of it", x, 2);
        x.find(4, 1, 2);
        weighed("and of that", x, 4);
        x.find(5, 2, 0);
        weighed("and of that: two go together", x, 1 | 8);
        x.find(0, 3, -1);
        x.find(1, 3, 0);
        weighed("0 and 3 are doubted", x, 1 | 8);
        x.unsay(0, 3);
        x.find(3, 3, -1);
        weighed("still", x, 1 | 8);
    }

    /** "to doubt (all their words)": with a JURY all go that it found. */
    private static void allTheirWords() {
        InquestHall x = hall(6);
        x.find(2, 0, 1);
        x.find(2, 3, 4);
        x.find(2, 4, 5);
        x.find(7, 0, 5);
        weighed("2 against 7", x, 1 << 2);
        Due.is("of 0", x.chain(0, 0), 5);
        Due.is("3 is not found", x.chain(3, 0), -1);
        Due.is("4 is not found", x.chain(4, 0), -1);
        x.find(8, 0, 1);
        weighed("2 and 8 against 7", x, 1 << 7);
        Due.is("of 0", x.chain(0, 0), 1);
        Due.is("3 is found", x.chain(3, 0), 4);
        Due.is("4 is found", x.chain(3, 1), 5);
    }

    /** "the fewest": one great number rather than two small ones. */
    private static void theFewest() {
        InquestHall x = hall(12);
        for (int j = 0; j < 9; j++) {
            x.find(j, j, 11);
            x.find(9, j, -1);
        }
        weighed("9 against all others", x, 1 << 9);
        InquestHall y = hall(12);
        for (int j = 0; j < 5; j++) {
            y.find(j, j, 11);
            y.find(j + 5, j, 10);
        }
        weighed("five pairs", y, 31);
        y.find(0, 1, 10);
        weighed("0 and 1 are at odds as well", y, 31);
        InquestHall z = hall(12);
        for (int j = 0; j < 10; j++) {
            z.find(j, 0, j + 1);
        }
        weighed("all ten are unlike", z, 511);
        z.find(0, 0, 10);
        weighed("the first says as the last", z, 510);
        z.find(4, 1, 2);
        z.find(5, 2, 1);
        weighed("as before", z, 510);
    }

    /** "of several the least number (JURY j counts 2 to the j)": the greatest JURY of a set weighs the most. */
    private static void leastNumber() {
        InquestHall x = hall(4);
        x.find(8, 0, 1);
        x.find(9, 0, 2);
        weighed("8 or 9", x, 1 << 8);
        x.find(0, 1, 3);
        x.find(7, 1, 2);
        weighed("0 or 7, too", x, 1 << 8 | 1);
        // {0, 9} and {1, 2} would both do: 513 and 6
        InquestHall y = hall(6);
        y.find(0, 0, 1);
        y.find(1, 0, 2);
        y.find(0, 1, 2);
        y.find(2, 1, 3);
        y.find(9, 2, 3);
        y.find(1, 2, 4);
        y.find(2, 3, 4);
        y.find(9, 3, 5);
        weighed("{1, 2} rather than {0, 9}", y, 6);
    }

    /** "LANDS one behind the other of which it is held"; "NONE: the KING, or not found". */
    private static void chain() {
        InquestHall x = hall(12);
        x.find(0, 11, 10);
        x.find(1, 10, 9);
        x.find(2, 9, 0);
        x.find(3, 0, -1);
        x.find(3, 5, 6);
        int[] due = {10, 9, 0, -1, -1};
        for (int i = 0; i < due.length; i++) {
            Due.is("chain(11, " + i + ")", x.chain(11, i), due[i]);
            Due.is("chain(10, " + i + ")", x.chain(10, i), i + 1 < due.length ? due[i + 1] : -1);
            Due.is("chain(0, " + i + ")", x.chain(0, i), -1);
            Due.is("chain(5, " + i + ")", x.chain(5, i), i == 0 ? 6 : -1);
        }
        for (int i : new int[] {11, 12, 13, 1000000, MAX}) {
            Due.is("chain(11, " + i + ")", x.chain(11, i), -1);
        }
    }

    /** "The CHAIN of a LAND then: .., by the rest." */
    private static void chainOfTheRest() {
        InquestHall x = hall(4);
        x.find(0, 0, 1);
        x.find(0, 1, 2);
        x.find(1, 1, 3);
        Due.is("0 is doubted", x.chain(0, 0), -1);
        Due.is("by 1", x.chain(1, 0), 3);
        x.find(2, 1, 2);
        Due.is("1 is doubted", x.chain(0, 0), 1);
        Due.is("by 0", x.chain(0, 1), 2);
        x.find(2, 2, 0);
        // the ring of 0 and 2 breaks by either: {0, 1} is 3, {0, 2} is 5, {1, 2} is 6, and one alone does not do
        weighed("a ring and two unlike things", x, 3);
        Due.is("by 2", x.chain(1, 0), 2);
        Due.is("by 2", x.chain(1, 1), 0);
        Due.is("0 is not found", x.chain(1, 2), -1);
    }

    /** "JURY j's word of LAND l is taken back: true; false if there is none." */
    private static void unsay() {
        InquestHall x = hall(12);
        Due.no("none yet", x.unsay(9, 11));
        Due.yes("find", x.find(9, 11, -1));
        Due.no("of another LAND", x.unsay(9, 10));
        Due.no("of another JURY", x.unsay(8, 11));
        Due.yes("taken back", x.unsay(9, 11));
        Due.no("none any more", x.unsay(9, 11));
        x.find(9, 11, 0);
        x.find(8, 11, 1);
        weighed("8 or 9", x, 1 << 8);
        Due.yes("taken back", x.unsay(9, 11));
        weighed("no more", x, 0);
        Due.is("by 8", x.chain(11, 0), 1);
        Due.yes("taken back", x.unsay(8, 11));
        Due.is("by none", x.chain(11, 0), -1);
        x.find(9, 11, 0);
        x.find(9, 11, 1);
        Due.yes("both words of it", x.unsay(9, 11));
        Due.no("none any more", x.unsay(9, 11));
    }

    /** "NONE for another what", "NONE - 1 if one can't be", "(the same)". */
    private static void refusals() {
        InquestHall x = hall(3);
        for (int what : new int[] {-1, 3, MAX, MIN}) {
            Due.is("quarrel(" + what + ")", x.quarrel(what), -1);
        }
        for (int l : new int[] {-2, -1, 3, 12, MAX, MIN}) {
            Due.is("chain(" + l + ", 0)", x.chain(l, 0), -2);
        }
        for (int i : new int[] {-1, -2, MIN}) {
            Due.is("chain(0, " + i + ")", x.chain(0, i), -2);
            Due.is("chain(3, " + i + ")", x.chain(3, i), -2);
        }
        for (int l = 0; l < 3; l++) {
            Due.no("of itself", x.find(0, l, l));
        }
        Due.no("NONE of the KING", x.find(0, -1, -1));
        weighed("nothing was found", x, 0);
    }
}
