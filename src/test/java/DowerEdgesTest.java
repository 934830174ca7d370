/** The DOWER of ==== 4 and promise 21 at its edges; above each test stands the sentence that it holds to. */
public final class DowerEdgesTest {
    private static final int DEATH = 5000;
    private static final int MAX = Integer.MAX_VALUE;
    private static final int MIN = Integer.MIN_VALUE;

    public static void main(String[] args) {
        due();
        nothingDue();
        allDue();
        thatWorthAtLeast();
        leastSpread();
        withWorthInIt();
        leastNumber();
        wifeAlive();
        latestWife();
        lawOfTheDay();
        refusals();
        Due.end();
    }

    /** Man 0 (dies on DEATH) with WIFE 1, a land with those WORTHS, all PLACES 10 times the ACRE's number. */
    private static InquestHall hall(String law, int... worth) {
        InquestHall x = Due.hallOn(9000);
        Due.is("lines of <" + law + ">", Due.law(x, 0, law) >= 0 ? 1 : 0, 1);
        x.person(0, -1, -1, 0, 0);
        x.person(1, -1, -1, 0, 0);
        x.land(0, 0, -1);
        for (int a = 0; a < worth.length; a++) {
            x.acre(0, a, worth[a], 10 * a);
        }
        x.marry(0, 1);
        x.dies(0, DEATH);
        return x;
    }

    private static void dower(InquestHall x, int... due) {
        for (int what = 0; what < 4; what++) {
            Due.is("dower(0, 0, " + what + ")", x.dower(0, 0, what), due[what]);
        }
    }

    /** "DUE: its WORTH times the first by the second number, upwards". */
    private static void due() {
        int[] due = {0, 1, 1, 1, 2, 2, 2, 3};
        for (int worth = 0; worth < due.length; worth++) {
            Due.is("a 3rd of " + worth, hall("", worth).dower(0, 0, 0), due[worth]);
        }
        Due.is("2 of 3 of 7", hall("dower 2 of 3;", 7).dower(0, 0, 0), 5);
        Due.is("1 of 99999 of 1", hall("dower 1 of 99999;", 1).dower(0, 0, 0), 1);
        Due.is("99998 of 99999 of 594", hall("dower 99998 of 99999;", 99, 99, 99, 99, 99, 99).dower(0, 0, 0), 594);
        Due.is("49999 of 99999 of 594", hall("dower 49999 of 99999;", 99, 99, 99, 99, 99, 99).dower(0, 0, 0), 297);
        Due.is("50000 of 99999 of 594", hall("dower 50000 of 99999;", 99, 99, 99, 99, 99, 99).dower(0, 0, 0), 298);
    }

    /** DUE 0: the set with 0 at least that has the least WORTH, spread and number is the empty one. */
    private static void nothingDue() {
        dower(hall("dower 0 of 1;", 5, 6, 7), 0, 0, 0, 0);
        dower(hall("dower 0 of 99999;", 99, 99, 99, 99, 99, 99), 0, 0, 0, 0);
        dower(hall("dower 1 of 1;"), 0, 0, 0, 0);
        dower(hall("", 0, 0, 0, 0, 0, 0), 0, 0, 0, 0);
    }

    /** DUE all: all ACRES with WORTH, and none of those without. */
    private static void allDue() {
        dower(hall("dower 1 of 1;", 99, 99, 99, 99, 99, 99), 594, 63, 594, 50);
        dower(hall("dower 99999 of 99999;", 0, 1, 0, 1, 0, 0), 2, 10, 2, 20);
        dower(hall("dower 7 of 7;", 0, 0, 0, 0, 0, 9), 9, 32, 9, 0);
        // all but one, each in its turn, that has no WORTH, or just what is not due
        for (int a = 0; a < 6; a++) {
            InquestHall x = hall("dower 1 of 1;", 9, 9, 9, 9, 9, 9);
            x.acre(0, a, 0, 10 * a);
            dower(x, 45, 63 - (1 << a), 45, a == 0 || a == 5 ? 40 : 50);
            InquestHall y = hall("dower 5 of 6;", 12, 12, 12, 12, 12, 12);
            y.acre(0, a, 11, 10 * a);
            dower(y, 60, 63 - (1 << a), 60, a == 0 || a == 5 ? 40 : 50);
        }
    }

    /** "the set of ACRES with that WORTH at least: the least WORTH", the WORTH ahead of the spread. */
    private static void thatWorthAtLeast() {
        dower(hall("", 10, 20, 30), 20, 2, 20, 0);
        dower(hall("", 10, 19, 31), 20, 3, 29, 10);
        dower(hall("", 4, 50, 0, 0, 0, 6), 20, 2, 50, 0);
        dower(hall("", 15, 50, 0, 0, 0, 6), 24, 2, 50, 0);
        dower(hall("", 18, 36, 0, 0, 0, 2), 19, 33, 20, 50);
    }

    /** "of several the least spread of PLACES (..: the greatest less the least)", of two, of one. */
    private static void leastSpread() {
        InquestHall x = hall("dower 1 of 2;", 10, 10, 20, 10, 10);
        dower(x, 30, 6, 30, 10);
        x.acre(0, 2, 20, 99);
        dower(x, 30, 11, 30, 30);
        x.acre(0, 4, 10, 98);
        dower(x, 30, 20, 30, 1);
        x.acre(0, 4, 10, 99);
        dower(x, 30, 20, 30, 0);
        InquestHall y = hall("dower 1 of 2;", 10, 10);
        dower(y, 10, 1, 10, 0);
        y.acre(0, 0, 10, 99);
        y.acre(0, 1, 10, 0);
        dower(y, 10, 1, 10, 0);
    }

    /** "(of those with WORTH in it ..)": an ACRE without WORTH, wherever it lies, neither spreads nor is taken. */
    private static void withWorthInIt() {
        InquestHall x = hall("dower 1 of 2;", 0, 10, 0, 10, 0, 0);
        x.acre(0, 0, 0, 0);
        x.acre(0, 5, 0, 99);
        dower(x, 10, 2, 10, 0);
        x.acre(0, 0, 1, 0);
        dower(x, 11, 3, 11, 10);
        x.acre(0, 5, 1, 31);
        dower(x, 11, 40, 11, 1);
    }

    /** "then the least number (ACRE a counts 2 to the a)". */
    private static void leastNumber() {
        InquestHall x = hall("dower 1 of 6;", 9, 9, 9, 9, 9, 9);
        dower(x, 9, 1, 9, 0);
        for (int a = 0; a < 6; a++) {
            x.acre(0, a, 9, 50);
        }
        Due.law(x, 0, "dower 1 of 2;");
        dower(x, 27, 7, 27, 0);
        x.acre(0, 0, 0, 50);
        x.acre(0, 1, 0, 50);
        dower(x, 18, 12, 18, 0);
        // {0, 3} and {1, 2}: like WORTH, like spread
        InquestHall y = hall("dower 1 of 2;", 1, 2, 3, 4, 0, 0);
        for (int a = 0; a < 4; a++) {
            y.acre(0, a, a + 1, 7);
        }
        dower(y, 5, 6, 5, 0);
        InquestHall z = hall("dower 1 of 2;", 4, 3, 2, 1, 0, 0);
        for (int a = 0; a < 4; a++) {
            z.acre(0, a, 4 - a, 7);
        }
        dower(z, 5, 6, 5, 0);
    }

    /** "if its holder's (the dead one's) WIFE is ALIVE", on the DAY of the death. */
    private static void wifeAlive() {
        for (int day = DEATH - 1; day <= DEATH + 1; day++) {
            InquestHall x = hall("", 3);
            x.dies(1, day);
            Due.is("she died on " + day, x.dower(0, 0, 0), day > DEATH ? 1 : -1);
            InquestHall y = hall("", 3);
            y.born(1, day, 9000);
            Due.is("she was BORN on " + day, y.dower(0, 0, 0), day <= DEATH ? 1 : -1);
        }
    }

    /** "A man has at most one WIFE (the latest told)", "NONE: none any more". */
    private static void latestWife() {
        InquestHall x = hall("", 3);
        x.person(1, -1, -1, 0, 0);
        x.dies(2, 4000);
        x.marry(0, 2);
        Due.is("the latest is dead", x.dower(0, 0, 0), -1);
        x.marry(0, 1);
        Due.is("the first again", x.dower(0, 0, 0), 1);
        x.marry(0, -1);
        for (int what = 0; what < 4; what++) {
            Due.is("none any more", x.dower(0, 0, what), -1);
        }
    }

    /** By the LAW on the DAY of the death. */
    private static void lawOfTheDay() {
        for (int day = DEATH - 1; day <= DEATH + 1; day++) {
            InquestHall x = hall("", 6);
            x.reign(day);
            Due.law(x, 1, "dower 1 of 2;");
            Due.is("a REIGN from " + day, x.dower(0, 0, 0), day <= DEATH ? 3 : 2);
        }
    }

    /** "NONE: p lives, is no man, has no WIFE that was ALIVE then, or one can't be", and another what. */
    private static void refusals() {
        InquestHall x = hall("", 3);
        x.person(0, -1, -1, 0, 0);
        x.marry(2, 1);
        Due.is("he lives", x.dower(2, 0, 0), -1);
        x.dies(2, DEATH);
        Due.is("he is dead", x.dower(2, 0, 0), 1);
        Due.is("she lives", x.dower(1, 0, 0), -1);
        x.dies(1, DEATH + 1);
        Due.is("a woman, dead", x.dower(1, 0, 0), -1);
        Due.is("she lived then", x.dower(0, 0, 0), 1);
        for (int wrong : new int[] {-2, -1, 3, 32, MAX, MIN}) {
            for (int what = 0; what < 4; what++) {
                Due.is("dower(" + wrong + ", 0, " + what + ")", x.dower(wrong, 0, what), -1);
                Due.is("dower(0, " + wrong + ", " + what + ")", x.dower(0, wrong, what), -1);
            }
        }
        for (int what : new int[] {-1, 4, MAX, MIN}) {
            Due.is("dower(0, 0, " + what + ")", x.dower(0, 0, what), -1);
        }
    }
}
