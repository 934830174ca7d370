/** ==== 5 and promises 22 to 25 at their edges; above each test stands the sentence that it holds to. */
public final class SeizingsEdgesTest {
    private static final int NOW = 5000;
    private static final int MAX = Integer.MAX_VALUE;
    private static final int MIN = Integer.MIN_VALUE;

    public static void main(String[] args) {
        fromADayOn();
        hangs();
        writ();
        writOfTheDay();
        voidAtOnce();
        upToTraverse();
        traverseOfTheTelling();
        allThatHang();
        voidFromNowOn();
        toldByThen();
        greatestDay();
        latestTold();
        kingAndNobody();
        holderRefused();
        seizing();
        Due.end();
    }

    private static InquestHall hall(String law) {
        InquestHall x = Due.hallOn(NOW);
        Due.law(x, 0, law);
        x.person(0, -1, -1, 0, 0);
        x.person(0, -1, -1, 0, 0);
        x.land(0, 0, -1);
        x.land(0, 0, -1);
        return x;
    }

    /** "from a DAY on (at most NOW)": DAY 0, NOW; the holder may be dead by then, or not BORN. */
    private static void fromADayOn() {
        InquestHall x = hall("");
        Due.is("from 0", x.seize(0, 0, 0, -1, -1), 0);
        Due.is("from NOW", x.seize(0, 1, NOW, -1, -1), 1);
        Due.is("behind NOW", x.seize(0, 1, NOW + 1, -1, -1), -1);
        Due.is("ahead of 0", x.seize(0, 1, -1, -1, -1), -1);
        Due.is("on 0", x.holder(0, 0, NOW), 0);
        Due.is("the DAY ahead of NOW", x.holder(0, NOW - 1, NOW), 0);
        Due.is("on NOW", x.holder(0, NOW, NOW), 1);
        x.dies(0, 0);
        Due.is("by one that is dead", x.seize(1, 0, 3000, -1, -1), 2);
        Due.is("he holds", x.holder(1, 3000, NOW), 0);
        x.born(1, 4000, 4000);
        Due.is("by one that is not BORN", x.seize(1, 1, 3500, -1, -1), 3);
        Due.is("he holds", x.holder(1, 3999, NOW), 1);
    }

    /** "perhaps it HANGS on an earlier SEIZING that is not VOID": of any LAND, holder and DAY. */
    private static void hangs() {
        InquestHall x = hall("");
        Due.is("on itself", x.seize(0, 0, 1, 0, -1), -1);
        Due.is("on none", x.seize(0, 0, 100, -1, -1), 0);
        Due.is("on one to come", x.seize(0, 0, 1, 1, -1), -1);
        Due.is("on one of another LAND, from an earlier DAY", x.seize(1, 1, 50, 0, -1), 1);
        Due.is("on that", x.seize(0, -1, 0, 1, -1), 2);
        Due.is("a VOID one", x.traverse(2), 1);
        Due.is("on a VOID one", x.seize(0, 0, 1, 2, -1), -1);
        Due.is("on the one beneath", x.seize(0, 0, 1, 1, -1), 3);
        Due.is("-2", x.seize(0, 0, 1, -2, -1), -1);
        Due.is("seizing(3, 4)", x.seizing(3, 4), 1);
    }

    /** "is VOID at once if it comes later than writ DAYS behind that death". */
    private static void writ() {
        for (int writ = 0; writ <= 2; writ++) {
            for (int late = 0; late <= 3; late++) {
                InquestHall x = hall("writ " + writ + ";");
                x.dies(0, NOW);
                if (late > 0) {
                    x.days(late);
                }
                Due.is("seize", x.seize(0, 1, 1, -1, 0), 0);
                Due.is("writ " + writ + ", " + late + " behind", x.seizing(0, 5), late > writ ? NOW + late : -1);
                Due.is("holder", x.holder(0, NOW, NOW + late), late > writ ? -2 : 1);
                Due.is("at no death", x.seize(0, 1, 1, -1, -1), 1);
                Due.is("that is never late", x.seizing(1, 5), -1);
            }
        }
        InquestHall y = Due.hallOn(0);
        y.person(0, -1, -1, 0, 0);
        y.land(0, 0, -1);
        y.dies(0, 0);
        y.days(9999);
        Due.is("9999 at first", y.seize(0, 0, 0, -1, 0), 0);
        Due.is("in time", y.seizing(0, 5), -1);
        y.days(1);
        Due.is("a DAY more", y.seize(0, 0, 0, -1, 0), 1);
        Due.is("too late", y.seizing(1, 5), 10000);
    }

    /** "(by the LAW on that DAY)": of the death, not of the telling, nor of the DAY from which; as that LAW is NOW. */
    private static void writOfTheDay() {
        for (int death = 2999; death <= 3001; death++) {
            InquestHall x = hall("writ 0;");
            x.reign(3000);
            Due.law(x, 1, "writ 9999;");
            x.dies(0, death);
            x.seize(0, 1, 100, -1, 0);
            Due.is("a death on " + death, x.seizing(0, 5), death < 3000 ? NOW : -1);
            Due.law(x, 0, "");
            x.seize(0, 1, 100, -1, 0);
            Due.is("by the new TEXT", x.seizing(1, 5), -1);
            Due.is("what was VOID stays so", x.seizing(0, 5), death < 3000 ? NOW : -1);
        }
    }

    /** What is VOID at once has a number, but nothing HANGS on it, and it can't be traversed. */
    private static void voidAtOnce() {
        InquestHall x = hall("writ 0;");
        x.dies(0, 100);
        x.seize(0, 1, 50, -1, -1);
        Due.is("a number", x.seize(0, 0, 200, 0, 0), 1);
        Due.is("on which it HANGS", x.seizing(1, 4), 0);
        Due.is("told", x.seizing(1, 3), NOW);
        Due.is("since", x.seizing(1, 5), NOW);
        Due.is("hangs on it", x.seize(0, 0, 200, 1, -1), -1);
        Due.is("traverse", x.traverse(1), -1);
        Due.is("holder", x.holder(0, 300, NOW), 1);
        Due.is("it does not count again", x.traverse(0), 1);
        Due.is("since, as it was", x.seizing(1, 5), NOW);
    }

    /** "up to traverse DAYS behind its telling"; "or too late". */
    private static void upToTraverse() {
        for (int traverse = 0; traverse <= 2; traverse++) {
            for (int late = 0; late <= 3; late++) {
                InquestHall x = hall("traverse " + traverse + ";");
                x.seize(0, 0, 100, -1, -1);
                if (late > 0) {
                    x.days(late);
                }
                Due.is("traverse " + traverse + ", " + late + " behind", x.traverse(0), late > traverse ? -1 : 1);
                Due.is("since", x.seizing(0, 5), late > traverse ? -1 : NOW + late);
            }
        }
        InquestHall y = hall("");
        y.seize(0, 0, 100, -1, -1);
        y.days(9999);
        y.seize(0, 0, 100, -1, -1);
        y.days(1);
        Due.is("10000 behind", y.traverse(0), -1);
        Due.is("1 behind", y.traverse(1), 1);
    }

    /** "(by the LAW on the DAY of its telling)": not of the DAY from which, nor of NOW. */
    private static void traverseOfTheTelling() {
        InquestHall x = hall("traverse 5;");
        x.reign(NOW + 1);
        Due.law(x, 1, "traverse 0;");
        x.seize(0, 0, 100, -1, -1);
        x.days(1);
        x.seize(0, 0, 100, -1, -1);
        x.days(1);
        Due.is("told in the later REIGN", x.traverse(1), -1);
        Due.is("told in the earlier one", x.traverse(0), 1);
        InquestHall y = hall("traverse 0;");
        y.reign(NOW);
        Due.law(y, 1, "traverse 1;");
        y.seize(0, 0, 100, -1, -1);
        y.days(1);
        Due.is("from the REIGN's first DAY on", y.traverse(0), 1);
    }

    /** "it and all that HANG on it (and on these ..)": however late these were told; "how many became VOID". */
    private static void allThatHang() {
        InquestHall x = hall("traverse 100;");
        x.seize(0, 0, 1, -1, -1);
        x.seize(0, 0, 2, 0, -1);
        x.seize(1, 0, 3, 1, -1);
        x.seize(1, 0, 4, -1, -1);
        x.seize(0, 0, 5, 0, -1);
        x.days(50);
        x.seize(0, 0, 6, 2, -1);
        x.seize(0, 0, 7, 3, -1);
        x.days(50);
        x.seize(0, 0, 8, 5, -1);
        Due.is("the one beneath 5 and 7", x.traverse(2), 3);
        Due.is("VOID already", x.traverse(5), -1);
        Due.is("what is left", x.traverse(0), 3);
        int[] since = {5100, 5100, 5100, -1, 5100, 5100, -1, 5100};
        for (int e = 0; e < since.length; e++) {
            Due.is("seizing(" + e + ", 5)", x.seizing(e, 5), since[e]);
        }
        x.days(1);
        Due.is("too late for 3", x.traverse(3), -1);
        Due.is("not for what HANGS on it", x.traverse(6), 1);
    }

    /** "VOID from NOW on": as known on the DAY ahead it stands. */
    private static void voidFromNowOn() {
        InquestHall x = hall("");
        x.seize(0, 0, 100, -1, -1);
        x.days(10);
        x.seize(0, 1, 200, -1, -1);
        x.days(10);
        x.traverse(1);
        x.days(10);
        int[] known = {4999, 5000, 5009, 5010, 5019, 5020, 5030};
        int[] holder = {-2, 0, 0, 1, 1, 0, 0};
        for (int i = 0; i < known.length; i++) {
            Due.is("as known on " + known[i], x.holder(0, 300, known[i]), holder[i]);
        }
        InquestHall y = hall("");
        y.seize(0, 0, 100, -1, -1);
        y.traverse(0);
        Due.is("told and VOID on one DAY", y.holder(0, 300, NOW), -2);
        Due.is("the DAY ahead", y.holder(0, 300, NOW - 1), -2);
    }

    /** "of those TOLD by then": what is told NOW of an earlier DAY was not known on that DAY. */
    private static void toldByThen() {
        InquestHall x = hall("");
        x.seize(0, 0, 0, -1, -1);
        Due.is("on the DAY of its telling", x.holder(0, 0, NOW), 0);
        Due.is("the DAY ahead", x.holder(0, 0, NOW - 1), -2);
        Due.is("on DAY 0", x.holder(0, 0, 0), -2);
        x.days(1);
        Due.is("a DAY later", x.holder(0, 0, NOW + 1), 0);
    }

    /** "the SEIZING with the greatest DAY from which, at most that". */
    private static void greatestDay() {
        InquestHall x = hall("");
        x.seize(0, 1, 300, -1, -1);
        x.seize(0, 0, 100, -1, -1);
        x.seize(0, -1, 200, -1, -1);
        x.seize(1, 1, 150, -1, -1);
        int[] days = {0, 99, 100, 199, 200, 299, 300, 301, 29999};
        int[] holder = {-2, -2, 0, 0, -1, -1, 1, 1, 1};
        for (int i = 0; i < days.length; i++) {
            Due.is("on " + days[i], x.holder(0, days[i], NOW), holder[i]);
        }
        Due.is("of LAND 1", x.holder(1, 149, NOW), -2);
        Due.is("of LAND 1", x.holder(1, 150, NOW), 1);
    }

    /** "of like ones the latest told": on a later DAY, or behind it on the same. */
    private static void latestTold() {
        InquestHall x = hall("");
        x.seize(0, 0, 100, -1, -1);
        x.seize(0, 1, 100, -1, -1);
        Due.is("on the same DAY", x.holder(0, 100, NOW), 1);
        x.days(1);
        x.seize(0, 0, 100, -1, -1);
        Due.is("on a later DAY", x.holder(0, 100, NOW + 1), 0);
        Due.is("as known ahead", x.holder(0, 100, NOW), 1);
        x.traverse(2);
        Due.is("that is VOID", x.holder(0, 100, NOW + 1), 1);
        x.traverse(1);
        Due.is("this, too", x.holder(0, 100, NOW + 1), 0);
        Due.is("as known ahead", x.holder(0, 100, NOW), 1);
    }

    /** "NONE: the KING; NONE - 1: nobody". */
    private static void kingAndNobody() {
        InquestHall x = hall("");
        Due.is("nobody", x.holder(0, NOW, NOW), -2);
        x.seize(0, -1, NOW, -1, -1);
        Due.is("the KING", x.holder(0, NOW, NOW), -1);
        Due.is("nobody ahead", x.holder(0, NOW - 1, NOW), -2);
        Due.is("nobody elsewhere", x.holder(1, NOW, NOW), -2);
        x.traverse(0);
        Due.is("nobody again", x.holder(0, NOW, NOW), -2);
    }

    /** "as known on a DAY (up to NOW)"; "NONE - 2: one can't be". */
    private static void holderRefused() {
        InquestHall x = hall("");
        x.seize(0, 0, 0, -1, -1);
        for (int l : new int[] {-2, -1, 2, 12, MAX, MIN}) {
            Due.is("holder(" + l + ", 0, 0)", x.holder(l, 0, 0), -3);
        }
        for (int day : new int[] {-1, 30000, MAX, MIN}) {
            Due.is("holder(0, " + day + ", 0)", x.holder(0, day, 0), -3);
            Due.is("holder(0, 0, " + day + ")", x.holder(0, 0, day), -3);
        }
        Due.is("known behind NOW", x.holder(0, 0, NOW + 1), -3);
        Due.is("known NOW", x.holder(0, 0, NOW), 0);
        Due.is("known on 0", x.holder(0, 0, 0), -2);
        Due.is("a DAY behind NOW", x.holder(0, NOW + 1, NOW), 0);
        Due.is("the last DAY", x.holder(0, 29999, NOW), 0);
    }

    /** "NONE - 1 if there is none such, or another what." */
    private static void seizing() {
        InquestHall x = hall("");
        Due.is("none yet", x.seizing(0, 0), -2);
        x.seize(1, -1, 7, -1, -1);
        int[] due = {1, -1, 7, NOW, -1, -1};
        for (int what = 0; what < 6; what++) {
            Due.is("seizing(0, " + what + ")", x.seizing(0, what), due[what]);
            for (int e : new int[] {-1, 1, 100, MAX, MIN}) {
                Due.is("seizing(" + e + ", " + what + ")", x.seizing(e, what), -2);
            }
        }
        for (int what : new int[] {-1, 6, MAX, MIN}) {
            Due.is("seizing(0, " + what + ")", x.seizing(0, what), -2);
        }
    }
}
