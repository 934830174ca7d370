/** ==== 4 and promises 19 to 21 at their edges; above each test stands the sentence that it holds to. */
public final class WardEdgesTest {
    private static final int DEATH = 9000;
    private static final int MAX = Integer.MAX_VALUE;
    private static final int MIN = Integer.MIN_VALUE;

    public static void main(String[] args) {
        notOfAge();
        untilNothing();
        itEnds();
        toLordAndKing();
        toKin();
        kingLines();
        firstHeir();
        dayAhead();
        asKnownNow();
        kingAndKnight();
        profit();
        noHeir();
        asked();
        wraps();
        nothingAtLeast();
        towardsNothing();
        reliefRefused();
        Due.end();
    }

    /**
     * Man 0 dies on DEATH, lord is 1; heir is 5 (of that sex), by mother 4, whose father and mother are 2 and 3; lands
     * 0, 1, 2 are of the three services.
     */
    private static InquestHall hall(int sex, int low, int high, String law) {
        InquestHall x = Due.hallOn(12000);
        Due.is("lines of <" + law + ">", Due.law(x, 0, law) < 1 ? 0 : 1, 1);
        x.person(0, -1, -1, 0, 0);
        x.person(0, -1, -1, 0, 0);
        x.person(0, -1, -1, 0, 0);
        x.person(1, -1, -1, 0, 0);
        x.person(1, 2, 3, 0, 0);
        x.person(sex, 0, 4, low, high);
        for (int service = 0; service < 3; service++) {
            x.land(service, service, 1);
        }
        x.dies(0, DEATH);
        return x;
    }

    /** "if it is not of age: BORN (low) and until times 360 is behind that DAY". */
    private static void notOfAge() {
        for (int late = -1; late <= 1; late++) {
            int low = DEATH - 20 * 360 + late;
            InquestHall man = hall(0, low, DEATH, "ward knight until 20 maid 10 to lord;ward socage until 20 to lord;");
            Due.is("a man, " + late, man.ward(0, 0, 5, 0), late > 0 ? 1 : 0);
            Due.is("his relief, " + late, man.relief(0, 0, 5), late > 0 ? -1 : 0);
            InquestHall woman = hall(1, low, DEATH, "ward knight until 10 maid 20 to lord;ward socage until 20 to lord;");
            Due.is("a woman, " + late, woman.ward(0, 0, 5, 0), late > 0 ? 1 : 0);
            Due.is("a woman without maid, " + late, woman.ward(0, 1, 5, 0), late > 0 ? 1 : 0);
            Due.is("her relief, " + late, woman.relief(0, 0, 5), late > 0 ? -1 : 0);
            for (int what = 1; what < 6; what++) {
                Due.is("ward(0, 0, 5, " + what + ") of age", late > 0 || man.ward(0, 0, 5, what) == -2 ? 1 : 0, 1);
                Due.is("her ward what " + what, late > 0 || woman.ward(0, 0, 5, what) == -2 ? 1 : 0, 1);
            }
        }
    }

    /** "no ward (until 0 to lord)": until 0 is of age, were it BORN on that very DAY; until 40 the longest. */
    private static void untilNothing() {
        InquestHall x = hall(0, DEATH, DEATH, "ward knight until 0 to lord;ward serjeanty until 40 to lord;");
        Due.is("until 0", x.ward(0, 0, 5, 0), 0);
        Due.is("no line", x.ward(0, 1, 5, 0), 0);
        Due.is("until 40", x.ward(0, 2, 5, 0), 1);
        Due.is("ends", x.ward(0, 2, 5, 1), DEATH + 14400);
        x.born(5, DEATH, 12000);
        Due.is("ends, high", x.ward(0, 2, 5, 2), 12000 + 14400);
        Due.is("relief until 0", x.relief(0, 0, 5), 0);
        InquestHall y = Due.hallOn(29999);
        Due.law(y, 0, "ward knight until 40 to lord;");
        y.person(0, -1, -1, 0, 0);
        y.person(0, 0, -1, 29999, 29999);
        y.land(0, 0, -1);
        for (int a = 0; a < 6; a++) {
            y.acre(0, a, 99, 0);
        }
        y.dies(0, 29999);
        Due.is("the last DAY of all", y.ward(0, 0, 1, 2), 44399);
        Due.is("the greatest PROFIT", y.ward(0, 0, 1, 4), 594 * 40);
    }

    /** "it ends on the DAYS (low .. high) of that". */
    private static void itEnds() {
        InquestHall x = hall(0, 8000, 8000, "ward knight until 20 to lord;");
        Due.is("low", x.ward(0, 0, 5, 1), 15200);
        Due.is("high, like it", x.ward(0, 0, 5, 2), 15200);
        x.born(5, 8999, 12000);
        Due.is("low", x.ward(0, 0, 5, 1), 16199);
        Due.is("high", x.ward(0, 0, 5, 2), 19200);
    }

    /** "To: lord: the LORD (NONE: the KING); king: the KING"; "5 1 if by the king's right, else 0". */
    private static void toLordAndKing() {
        InquestHall x = hall(0, 8000, 8000, "ward knight until 20 to king;ward socage until 20 to lord;");
        x.land(3, 1, -1);
        Due.is("king", x.ward(0, 0, 5, 3), -1);
        Due.is("king: no right needed", x.ward(0, 0, 5, 5), 0);
        Due.is("lord", x.ward(0, 1, 5, 3), 1);
        Due.is("lord", x.ward(0, 1, 5, 5), 0);
        Due.is("lord: the KING", x.ward(0, 3, 5, 3), -1);
        Due.is("lord: the KING", x.ward(0, 3, 5, 5), 0);
    }

    /** "kin: the heir's MOTHER if ALIVE, else MOTHER's FATHER, else MOTHER's MOTHER, each if ALIVE, else the LORD". */
    private static void toKin() {
        int[] kin = {4, 2, 3};
        for (int set = 0; set < 8; set++) {
            InquestHall x = hall(0, 8000, 8000, "ward knight until 20 to kin;");
            int due = 1;
            for (int k = 2; k >= 0; k--) {
                boolean dead = (set >> k & 1) == 1;
                x.dies(kin[k], dead ? DEATH : DEATH + 1);
                due = dead ? due : kin[k];
            }
            Due.is("dead as " + set, x.ward(0, 0, 5, 3), due);
        }
        InquestHall y = hall(0, 8000, 8000, "ward knight until 20 to kin;");
        y.born(4, DEATH + 1, DEATH + 1);
        Due.is("the MOTHER not BORN by then", y.ward(0, 0, 5, 3), 2);
        y.born(4, DEATH, DEATH + 1);
        Due.is("BORN on that DAY", y.ward(0, 0, 5, 3), 4);
        orphans();
    }

    private static void orphans() {
        InquestHall x = Due.hallOn(12000);
        Due.law(x, 0, "heirs all;ward knight until 20 to kin;");
        x.person(0, -1, -1, 0, 0);
        x.person(1, -1, -1, 0, 0);
        x.person(1, -1, 1, 0, 0);
        x.person(0, -1, -1, 0, 0);
        x.person(1, 3, -1, 0, 0);
        x.person(1, -1, -1, 0, 0);
        int[] mothers = {-1, 2, 4, 5};
        for (int mother : mothers) {
            x.person(0, 0, mother, 8000, 8000);
        }
        x.land(0, 0, 0);
        x.dies(0, DEATH);
        x.dies(2, 8000);
        x.dies(4, 8000);
        x.dies(5, 8000);
        Due.is("no MOTHER: the LORD, though he is the dead one", x.ward(0, 0, 6, 3), 0);
        Due.is("a MOTHER without FATHER", x.ward(0, 0, 7, 3), 1);
        Due.is("a MOTHER without MOTHER", x.ward(0, 0, 8, 3), 3);
        Due.is("a MOTHER without either", x.ward(0, 0, 9, 3), 0);
        x.dies(1, 8500);
        x.dies(3, 8500);
        Due.is("none of them is ALIVE", x.ward(0, 0, 7, 3), 0);
        Due.is("none of them is ALIVE", x.ward(0, 0, 8, 3), 0);
    }

    /** "But if a king line's B is so for the LAND ..: the KING", any of them, by the LAW on the DAY of the death. */
    private static void kingLines() {
        String wards = "ward knight until 20 to lord;ward socage until 20 to kin;ward serjeanty until 20 to king;";
        InquestHall x = hall(0, 8000, 8000, wards + "king when service = 3;king when worth > 9;king when 2 < 1;");
        for (int l = 0; l < 3; l++) {
            Due.is("none is so", x.ward(0, l, 5, 5), 0);
            x.acre(l, 0, 9, 0);
            Due.is("none is so", x.ward(0, l, 5, 5), 0);
            x.acre(l, 0, 10, 0);
            Due.is("one is so", x.ward(0, l, 5, 5), 1);
            Due.is("the KING's", x.ward(0, l, 5, 3), -1);
            x.acre(l, 0, 0, 0);
        }
        for (int day = DEATH - 1; day <= DEATH + 1; day++) {
            InquestHall y = hall(0, 8000, 8000, wards);
            y.reign(day);
            Due.law(y, 1, wards + "king when 1 < 2;");
            Due.is("a REIGN from " + day, y.ward(0, 0, 5, 5), day <= DEATH ? 1 : 0);
        }
    }

    /** "(For king lines: of the first HEIR by numbers; ..)": share and age of that one, whoever is asked for. */
    private static void firstHeir() {
        InquestHall x = Due.hallOn(12000);
        Due.law(x, 0, "ward knight until 30 to lord;king when age = 20 and share = 33 and heirs = 4 and acres = 0 "
            + "and shire = 3 and service = 0;");
        x.person(0, -1, -1, 0, 0);
        x.person(1, 0, -1, 0, 0);
        x.person(1, 0, -1, 1000, DEATH - 20 * 360);
        x.person(1, 0, -1, 1000, DEATH - 22 * 360);
        x.person(1, -1, 1, 100, DEATH - 24 * 360);
        x.person(1, -1, 1, 1000, 1000);
        x.dies(1, 2000);
        x.dies(0, DEATH);
        x.land(3, 0, 0);
        for (int q = 2; q < 6; q++) {
            Due.is("ward(0, 0, " + q + ", 5)", x.ward(0, 0, q, 5), 1);
            Due.is("ward(0, 0, " + q + ", 3)", x.ward(0, 0, q, 3), -1);
        }
        x.born(2, 1000, DEATH - 20 * 360 + 1);
        Due.is("a DAY less", x.ward(0, 0, 3, 5), 0);
        x.born(2, 1000, DEATH - 21 * 360 + 1);
        Due.is("a YEAR more but for a DAY", x.ward(0, 0, 3, 5), 1);
        x.born(2, 1000, DEATH - 21 * 360);
        Due.is("a YEAR more", x.ward(0, 0, 3, 5), 0);
    }

    /** "or the dead one held (.., on the DAY ahead of the death) a LAND whose LORD is the KING and whose SERVICE is knight". */
    private static void dayAhead() {
        for (int from = DEATH - 2; from <= DEATH; from++) {
            InquestHall x = hall(0, 8000, 8000, "ward knight until 20 to lord;");
            int kings = x.land(0, 0, -1);
            x.seize(kings, 0, from, -1, -1);
            Due.is("held from " + from, x.ward(0, 0, 5, 5), from < DEATH ? 1 : 0);
            Due.is("whose", x.ward(0, 0, 5, 3), from < DEATH ? -1 : 1);
            x.seize(kings, 5, from + 1, -1, -1);
            Due.is("held up to " + from, x.ward(0, 0, 5, 5), from == DEATH - 1 ? 1 : 0);
        }
        InquestHall y = Due.hallOn(100);
        Due.law(y, 0, "ward knight until 20 to lord;");
        y.person(0, -1, -1, 0, 0);
        y.person(0, 0, -1, 0, 0);
        y.land(0, 0, -1);
        y.seize(0, 0, 0, -1, -1);
        y.dies(0, 0);
        Due.is("a death on DAY 0", y.ward(0, 0, 1, 5), 0);
        InquestHall z = Due.hallOn(100);
        Due.law(z, 0, "ward knight until 20 to lord;");
        z.person(0, -1, -1, 0, 0);
        z.person(0, 0, -1, 0, 0);
        z.land(0, 0, -1);
        z.seize(0, 0, 0, -1, -1);
        z.dies(0, 1);
        Due.is("a death on DAY 1", z.ward(0, 0, 1, 5), 1);
    }

    /** "(as known NOW, ..)": not what was traversed since, and what was told long behind the death. */
    private static void asKnownNow() {
        InquestHall x = hall(0, 8000, 8000, "ward knight until 20 to lord;traverse 9999;");
        int kings = x.land(0, 0, -1);
        Due.is("nobody known", x.ward(0, 0, 5, 5), 0);
        int e = x.seize(kings, 0, 5000, -1, -1);
        Due.is("known NOW", x.ward(0, 0, 5, 5), 1);
        x.days(100);
        int f = x.seize(kings, -1, 8999, e, -1);
        Due.is("the KING's own by then", x.ward(0, 0, 5, 5), 0);
        x.days(100);
        x.traverse(f);
        Due.is("that is VOID", x.ward(0, 0, 5, 5), 1);
        x.traverse(e);
        Due.is("all is VOID", x.ward(0, 0, 5, 5), 0);
    }

    /** "a LAND whose LORD is the KING and whose SERVICE is knight": both, whichever LAND is asked for. */
    private static void kingAndKnight() {
        for (int service = 0; service < 3; service++) {
            for (int lord = -1; lord < 2; lord++) {
                InquestHall x = hall(0, 8000, 8000, "ward serjeanty until 20 to lord;");
                int l = x.land(0, service, lord);
                x.seize(l, 0, 100, -1, -1);
                Due.is("service " + service + ", lord " + lord, x.ward(0, 2, 5, 5), service == 0 && lord == -1 ? 1 : 0);
                x.seize(l, 1, 200, -1, -1);
                Due.is("held by another", x.ward(0, 2, 5, 5), 0);
            }
        }
    }

    /** "the LAND's WORTH (of all ACRES) times the heir's SHARE times the DAYS .. to the end (low) by 360, downwards". */
    private static void profit() {
        InquestHall x = hall(0, DEATH - 7199, DEATH, "ward knight until 20 to lord;");
        int[][] due = {{0, 0}, {359, 0}, {360, 1}, {361, 1}};
        for (int[] one : due) {
            // one DAY of ward, that WORTH
            for (int a = 0; a < 6; a++) {
                x.acre(0, a, Math.min(99, Math.max(0, one[0] - 99 * a)), 0);
            }
            Due.is("WORTH " + one[0], x.ward(0, 0, 5, 4), one[1]);
        }
        InquestHall y = Due.hallOn(12000);
        Due.law(y, 0, "ward knight until 20 to lord;");
        y.person(0, -1, -1, 0, 0);
        for (int n = 0; n < 7; n++) {
            y.person(1, 0, -1, DEATH, DEATH);
        }
        y.land(0, 0, -1);
        y.acre(0, 0, 99, 0);
        y.dies(0, DEATH);
        Due.is("a 7th of 99 in 20 YEARS", y.ward(0, 0, 3, 4), 282);
        y.born(3, DEATH - 3600, DEATH);
        Due.is("in 10 YEARS, by low", y.ward(0, 0, 3, 4), 141);
    }

    /** "NONE - 1: q is no HEIR, one can't be; for 1 .. 5 if it is none", and another what. */
    private static void noHeir() {
        InquestHall x = hall(0, 8000, 8000, "ward knight until 20 to lord;");
        for (int what = 0; what < 6; what++) {
            Due.is("no HEIR, what " + what, x.ward(0, 0, 1, what), -2);
            Due.is("the dead one, what " + what, x.ward(0, 0, 0, what), -2);
            Due.is("who lives, what " + what, x.ward(5, 0, 5, what), -2);
            for (int wrong : new int[] {-2, -1, 6, 32, MAX, MIN}) {
                Due.is("ward(" + wrong + ", 0, 5, " + what + ")", x.ward(wrong, 0, 5, what), -2);
                Due.is("ward(0, " + wrong + ", 5, " + what + ")", x.ward(0, wrong, 5, what), -2);
                Due.is("ward(0, 0, " + wrong + ", " + what + ")", x.ward(0, 0, wrong, what), -2);
            }
        }
        for (int what : new int[] {-1, 6, 7, MAX, MIN}) {
            Due.is("ward(0, 0, 5, " + what + ")", x.ward(0, 0, 5, what), -2);
            Due.is("ward(0, 1, 5, " + what + ") of age", x.ward(0, 1, 5, what), -2);
        }
    }

    private static void relief(InquestHall x, String formula, int due) {
        Due.is("lines of <" + formula + ">", Due.law(x, 0, "relief " + formula + ";"), 1);
        Due.is("relief " + formula, x.relief(0, 0, 5), due);
    }

    /** "Asked are: worth, acres (how many have WORTH above 0), shire, service, age (.. downwards, 0 at least), heirs, share (..)". */
    private static void asked() {
        InquestHall x = hall(0, 100, 8640, "writ 1;");
        for (int a = 0; a < 6; a++) {
            // the next LAND's do not count
            x.acre(1, a, 50, 0);
        }
        relief(x, "worth", 0);
        relief(x, "acres", 0);
        for (int a = 0; a < 6; a++) {
            x.acre(0, a, 99, 0);
            relief(x, "acres", a + 1);
        }
        relief(x, "worth", 594);
        x.acre(0, 3, 0, 99);
        relief(x, "acres", 5);
        x.acre(0, 3, 1, 99);
        relief(x, "acres", 6);
        relief(x, "age", 1);
        relief(x, "shire", 0);
        relief(x, "service", 0);
        relief(x, "heirs", 1);
        relief(x, "share", 100);
        int[][] ages = {{8641, 0}, {9000, 0}, {9001, 0}, {12000, 0}, {8280, 2}, {8281, 1}, {100, 24}};
        for (int[] one : ages) {
            x.born(5, 100, one[0]);
            relief(x, "age", one[1]);
        }
        x.person(1, 0, -1, 0, 0);
        relief(x, "heirs", 1);
        x.dies(5, 200);
        Due.is("heirs, of her who is one now", x.relief(0, 0, 6), 1);
    }

    /** "Ints, which wrap": in one E, in the sum of all, in king lines. */
    private static void wraps() {
        InquestHall x = hall(0, 100, 100, "writ 1;");
        relief(x, "65536*32767+65535", MAX);
        relief(x, "65536*32767+65536", 0);
        relief(x, "0-65536*32768-1", MAX);
        relief(x, "65536*65536+7", 7);
        relief(x, "99999*99999", 1409865409);
        relief(x, "46341*46341", 0);
        relief(x, "46340*46340", 2147395600);
        relief(x, "65536*32767+65535;relief 1", 0, 2);
        relief(x, "65536*32767+65535;relief 65536*32767+65535;relief 9", 7, 3);
        relief(x, "0-65536*32768;relief 0-1", MAX, 2);
        relief(x, "5 when 65536*32768<0", 5);
        relief(x, "5 when 65536*32768-1>0", 5);
        relief(x, "5 when 65536*65536=0", 5);
        InquestHall y = hall(0, 8000, 8000, "ward knight until 20 to lord;king when 65536*32768>0;");
        Due.is("above 0 if it did not wrap", y.ward(0, 0, 5, 5), 0);
        InquestHall z = hall(0, 8000, 8000, "ward knight until 20 to lord;king when 65536*32768<0;");
        Due.is("below 0 as it wraps", z.ward(0, 0, 5, 5), 1);
    }

    private static void relief(InquestHall x, String formulas, int due, int lines) {
        Due.is("lines of <" + formulas + ">", Due.law(x, 0, "relief " + formulas + ";"), lines);
        Due.is("relief " + formulas, x.relief(0, 0, 5), due);
    }

    /** "the sum of E of relief lines whose B is so, 0 at least": the sum, not each E. */
    private static void nothingAtLeast() {
        InquestHall x = hall(0, 100, 100, "writ 1;");
        Due.is("no line", x.relief(0, 0, 5), 0);
        relief(x, "0", 0);
        relief(x, "0-1", 0);
        relief(x, "0-5;relief 7", 2, 2);
        relief(x, "7;relief 0-5", 2, 2);
        relief(x, "5;relief 0-7", 0, 2);
        relief(x, "5 when 1=1;relief 7 when 1=2;relief 1 when not 1=2", 6, 3);
        relief(x, "5 when 1=2", 0);
        relief(x, "1;relief ".repeat(29) + "1", 30, 30);
        for (int l = 1; l < 3; l++) {
            Due.law(x, 0, "relief 3 when service=1;relief 4 when shire=2;");
            Due.is("by the LAND", x.relief(0, l, 5), l + 2);
        }
    }

    /** "/ goes towards 0". */
    private static void towardsNothing() {
        InquestHall x = hall(0, 100, 100, "writ 1;");
        relief(x, "10+(0-7)/2", 7);
        relief(x, "10+(0-1)/2", 10);
        relief(x, "7/2", 3);
        relief(x, "1/2", 0);
        relief(x, "0/99999", 0);
        relief(x, "99999/99999", 1);
        relief(x, "10+(0-1)/99999", 10);
        relief(x, "(0-65536*32768)/1", 0);
        relief(x, "0-(0-65536*32768)/2", 1073741824);
        relief(x, "7/2*2", 6);
        relief(x, "7*2/2", 7);
        relief(x, "100/3/3", 11);
        relief(x, "9-3-3", 3);
        relief(x, "9-3+3", 9);
        relief(x, "9-(3+3)", 3);
        relief(x, "2+3*4-5", 9);
    }

    /** "NONE: it is no HEIR, or not of age, or one can't be." */
    private static void reliefRefused() {
        InquestHall x = hall(0, 8000, 8000, "ward knight until 20 to lord;relief 9;");
        Due.is("not of age", x.relief(0, 0, 5), -1);
        Due.is("of age by another SERVICE", x.relief(0, 1, 5), 9);
        Due.is("no HEIR", x.relief(0, 1, 1), -1);
        Due.is("who lives", x.relief(5, 1, 5), -1);
        for (int wrong : new int[] {-2, -1, 6, 32, MAX, MIN}) {
            Due.is("relief(" + wrong + ", 1, 5)", x.relief(wrong, 1, 5), -1);
            Due.is("relief(0, " + wrong + ", 5)", x.relief(0, wrong, 5), -1);
            Due.is("relief(0, 1, " + wrong + ")", x.relief(0, 1, wrong), -1);
        }
    }
}
