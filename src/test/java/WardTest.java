/** Promises 19 to 21: ward, relief, dower. */
public final class WardTest {
    public static void main(String[] args) {
        wardOrNot();
        guardians();
        kingLines();
        heldOfTheKing();
        profit();
        reliefs();
        formulas();
        dower();
        dowerSets();
        Due.end();
    }

    /** Man 0 died on 9000; his wife 1, son 2, daughter 3, their mother's father 4 and mother 5; lord 6. */
    private static InquestHall family(String law) {
        InquestHall x = Due.hallOn(12000);
        Due.law(x, 0, law);
        x.person(0, -1, -1, 0, 0);
        x.person(0, -1, -1, 0, 0);
        x.person(1, -1, -1, 0, 0);
        x.person(1, 1, 2, 10, 10);
        x.person(0, 0, 3, 5000, 5100);
        x.person(1, 0, 3, 5200, 5300);
        x.person(0, -1, -1, 0, 0);
        x.land(0, 0, 6);
        x.land(1, 1, 6);
        x.land(2, 2, -1);
        x.dies(0, 9000);
        return x;
    }

    private static void wardOrNot() {
        InquestHall x = family("ward knight until 12 maid 11 to lord;ward socage until 11 to lord;heirs all;");
        Due.is("ward(0, 0, 4, 0)", x.ward(0, 0, 4, 0), 1);
        Due.is("ward(0, 0, 4, 1)", x.ward(0, 0, 4, 1), 9320);
        Due.is("ward(0, 0, 4, 2)", x.ward(0, 0, 4, 2), 9420);
        Due.is("ward(0, 0, 4, 3)", x.ward(0, 0, 4, 3), 6);
        Due.is("ward(0, 0, 4, 5)", x.ward(0, 0, 4, 5), 0);
        Due.is("ward(0, 0, 4, 6)", x.ward(0, 0, 4, 6), -2);
        Due.is("ward(0, 0, 4, -1)", x.ward(0, 0, 4, -1), -2);
        Due.is("ward(0, 1, 4, 0)", x.ward(0, 1, 4, 0), 0);
        for (int what = 1; what <= 5; what++) {
            Due.is("ward(0, 1, 4, " + what + ")", x.ward(0, 1, 4, what), -2);
        }
        Due.is("no ward", x.ward(0, 2, 4, 0), 0);
        Due.is("no heir", x.ward(0, 0, 5, 0), -2);
        Due.is("no land", x.ward(0, 3, 4, 0), -2);
        Due.is("lives", x.ward(1, 0, 4, 0), -2);
        Due.is("no person", x.ward(0, 0, 7, 0), -2);
        Due.is("no person", x.ward(0, 0, -1, 0), -2);
        // of age on the very DAY, by low
        x.born(4, 9000 - 12 * 360, 9000);
        Due.is("of age", x.ward(0, 0, 4, 0), 0);
        x.born(4, 9001 - 12 * 360, 9000);
        Due.is("not yet", x.ward(0, 0, 4, 0), 1);
        Due.is("ends", x.ward(0, 0, 4, 1), 9001);
        // a woman's years
        x.dies(4, 8000);
        Due.is("ward(0, 0, 5, 1)", x.ward(0, 0, 5, 1), 5200 + 11 * 360);
        Due.is("ward(0, 0, 5, 2)", x.ward(0, 0, 5, 2), 5300 + 11 * 360);
        x.born(5, 9000 - 11 * 360, 9000);
        Due.is("of age", x.ward(0, 0, 5, 0), 0);
    }

    private static void guardians() {
        InquestHall x = family("ward knight until 40 to kin;ward socage until 40 to king;ward serjeanty until 40 to lord;");
        Due.is("her son's mother", x.ward(0, 0, 4, 3), 3);
        Due.is("the king", x.ward(0, 1, 4, 3), -1);
        Due.is("not by his right", x.ward(0, 1, 4, 5), 0);
        Due.is("the lord is the king", x.ward(0, 2, 4, 3), -1);
        Due.is("not by his right", x.ward(0, 2, 4, 5), 0);
        x.dies(3, 9000);
        Due.is("mother's father", x.ward(0, 0, 4, 3), 1);
        x.dies(1, 8999);
        Due.is("mother's mother", x.ward(0, 0, 4, 3), 2);
        x.dies(2, 9001);
        Due.is("alive then", x.ward(0, 0, 4, 3), 2);
        InquestHall y = family("ward knight until 40 to kin;");
        y.dies(1, 100);
        y.dies(2, 100);
        y.dies(3, 5300);
        Due.is("the lord", y.ward(0, 0, 4, 3), 6);
        InquestHall z = Due.hallOn(9000);
        Due.law(z, 0, "ward knight until 40 to kin;");
        z.person(0, -1, -1, 0, 0);
        z.person(0, 0, -1, 1, 1);
        z.land(0, 0, 0);
        z.dies(0, 9000);
        Due.is("without a mother the lord", z.ward(0, 0, 1, 3), 0);
    }

    private static void kingLines() {
        InquestHall x = family("heirs all;ward knight until 40 to lord;king when worth>10;king when shire=3;");
        Due.is("not so", x.ward(0, 0, 4, 5), 0);
        Due.is("not so", x.ward(0, 0, 4, 3), 6);
        x.acre(0, 3, 11, 0);
        Due.is("so", x.ward(0, 0, 4, 5), 1);
        Due.is("so", x.ward(0, 0, 4, 3), -1);
        // of the first HEIR by numbers, not of the one that is asked for
        InquestHall y = Due.hallOn(9000);
        Due.law(y, 0, "heirs all;ward knight until 40 to lord;king when age=20 and heirs=2 and share=50 and service=0 and acres=1;");
        y.person(0, -1, -1, 0, 0);
        y.person(0, 0, -1, 100, 9000 - 20 * 360);
        y.person(0, 0, -1, 100, 9000 - 10 * 360);
        y.land(0, 0, 0);
        y.acre(0, 5, 1, 1);
        y.dies(0, 9000);
        Due.is("first's age", y.ward(0, 0, 2, 5), 1);
        y.born(1, 100, 9001 - 20 * 360);
        y.born(2, 100, 9000 - 20 * 360);
        Due.is("first's age", y.ward(0, 0, 2, 5), 0);
    }

    private static void heldOfTheKing() {
        InquestHall x = family("ward knight until 40 to lord;");
        int knights = x.land(3, 0, -1);
        int socage = x.land(3, 1, -1);
        x.seize(socage, 0, 100, -1, -1);
        x.seize(0, 0, 100, -1, -1);
        Due.is("not of the king by knight service", x.ward(0, 0, 4, 5), 0);
        int e = x.seize(knights, 0, 9000, -1, -1);
        Due.is("on the DAY of death only", x.ward(0, 0, 4, 5), 0);
        x.traverse(e);
        e = x.seize(knights, 0, 8999, -1, -1);
        Due.is("on the DAY ahead", x.ward(0, 0, 4, 5), 1);
        Due.is("the king's", x.ward(0, 0, 4, 3), -1);
        x.traverse(e);
        Due.is("as known NOW", x.ward(0, 0, 4, 5), 0);
        x.seize(knights, 0, 100, -1, -1);
        x.seize(knights, -1, 200, -1, -1);
        Due.is("not any more then", x.ward(0, 0, 4, 5), 0);
        full();
        // a death on DAY 0 has no DAY ahead
        InquestHall y = Due.hallOn(10);
        Due.law(y, 0, "ward knight until 1 to lord;");
        y.person(0, -1, -1, 0, 0);
        y.person(0, 0, -1, 0, 0);
        y.land(0, 0, -1);
        y.seize(0, 0, 0, -1, -1);
        y.dies(0, 0);
        Due.is("no DAY ahead", y.ward(0, 0, 1, 5), 0);
    }

    /** As many PEOPLE and LANDS as there can be; the king's LAND is the first one, or the last one. */
    private static void full() {
        for (int kings = 0; kings < 12; kings += 11) {
            InquestHall x = Due.hallOn(9000);
            Due.law(x, 0, "heirs all;ward socage until 40 to lord;");
            x.person(0, -1, -1, 0, 0);
            for (int p = 1; p < 32; p++) {
                x.person(0, 0, -1, 100, 100);
            }
            for (int l = 0; l < 12; l++) {
                x.land(0, l == kings ? 0 : 1, l == kings ? -1 : 31);
            }
            x.dies(0, 8000);
            Due.is("31 heirs", x.heirs(0, 5), 31);
            Due.is("share of the last", x.share(0, 5, 31, 1), 31);
            Due.is("the lord's", x.ward(0, 5, 31, 3), 31);
            x.seize(kings, 0, 7999, -1, -1);
            Due.is("the king's", x.ward(0, 5, 31, 3), -1);
        }
    }

    private static void profit() {
        InquestHall x = Due.hallOn(12000);
        Due.law(x, 0, "ward knight until 21 to lord;");
        x.person(0, -1, -1, 0, 0);
        for (int n = 0; n < 3; n++) {
            x.person(1, 0, -1, 5000, 6000);
        }
        x.land(0, 0, 0);
        x.acre(0, 0, 60, 0);
        x.acre(0, 1, 41, 0);
        x.dies(0, 9000);
        // 101 * 1/3 * 3560 / 360 = 332.9..
        Due.is("ward(0, 0, 1, 4)", x.ward(0, 0, 1, 4), 332);
        x.acre(0, 0, 0, 0);
        x.acre(0, 1, 0, 0);
        Due.is("ward(0, 0, 1, 4)", x.ward(0, 0, 1, 4), 0);
    }

    private static void reliefs() {
        InquestHall x = family("ward socage until 14 to lord;relief worth/2;relief 100 when service=0;relief 7 when worth>100;relief 0-worth when shire=1;");
        Due.is("no heir", x.relief(0, 0, 5), -1);
        Due.is("not of age", x.relief(0, 1, 4), -1);
        Due.is("no land", x.relief(0, 3, 4), -1);
        Due.is("lives", x.relief(1, 0, 4), -1);
        Due.is("nobody", x.relief(0, 0, 7), -1);
        x.acre(0, 0, 51, 0);
        Due.is("25 and 100", x.relief(0, 0, 4), 125);
        x.acre(0, 1, 50, 0);
        Due.is("50 and 100 and 7", x.relief(0, 0, 4), 157);
        x.acre(1, 0, 10, 0);
        x.born(4, 100, 200);
        Due.is("0 at least", x.relief(0, 1, 4), 0);
        Due.is("of nothing", x.relief(0, 2, 4), 0);
        InquestHall none = family("");
        Due.is("no relief line", none.relief(0, 0, 4), 0);
    }

    private static void one(int due, String formula) {
        InquestHall x = Due.hallOn(9000);
        Due.is("lines of " + formula, Due.law(x, 0, "heirs all;relief " + formula + ";"), 2);
        x.person(0, -1, -1, 0, 0);
        for (int n = 0; n < 3; n++) {
            x.person(0, 0, -1, 100, 9000 - 7 * 360 - 359);
        }
        x.land(3, 2, -1);
        x.acre(0, 0, 40, 0);
        x.acre(0, 2, 30, 0);
        x.dies(0, 9000);
        Due.is("relief " + formula, x.relief(0, 0, 2), due);
    }

    private static void formulas() {
        one(70, "worth");
        one(2, "acres");
        one(3, "shire");
        one(2, "service");
        one(7, "age");
        one(3, "heirs");
        one(33, "share");
        one(14, "2+3*4");
        one(20, "(2+3)*4");
        one(5, "10-3-2");
        one(9, "10-(3-2)");
        one(3, "7/2");
        one(7, "7/1");
        one(1, "1 when 2>1 and 1<2 and 1=1 and not 2<1");
        one(6, "7/2*2");
        one(7, "7*2/2");
        one(7, "10+(0-7)/2");
        one(1, "100/7/10");
        one(99999, "99999");
        one(1410065408 - 2 * 100000 + 1, "99999*99999");
        one(0, "0-5");
        one(1, "1 when 1<2");
        one(0, "1 when 2<2");
        one(0, "1 when 2<1");
        one(1, "1 when 2=2");
        one(0, "1 when 2=1");
        one(1, "1 when 3>2");
        one(0, "1 when 2>2");
        one(0, "1 when not 1<2");
        one(1, "1 when not not 1<2");
        one(1, "1 when 1<2 and 2<3");
        one(0, "1 when 1<2 and 3<2");
        one(1, "1 when 1<2 or 3<2");
        one(0, "1 when 2<1 or 3<2");
        one(1, "1 when 1<2 or 1<2 and 2<1");
        one(0, "1 when not 1<2 and 2<1");
        one(1, "1 when not 2<1 or 2<1");
        one(1, "1 when not 1<2 or 1<2");
        one(1, "1 when 1+2*3=7");
        one(1, "1 when (1+2)*3=9 and 0-1<0");
        one(1, "1 when 0<((((1+1)))) and not ((((((1))))))=2");
        // wraps: 46341 * 46341 is above the greatest int
        one(5, "5 when 46341*46341<0");
        one(5, "5 when 46340*46340>0");
    }

    private static void dower() {
        InquestHall x = Due.hallOn(9000);
        x.person(0, -1, -1, 0, 0);
        x.person(1, -1, -1, 100, 100);
        x.land(0, 0, -1);
        x.acre(0, 0, 10, 5);
        x.marry(0, 1);
        Due.is("p lives", x.dower(0, 0, 0), -1);
        x.dies(0, 5000);
        Due.is("dower(0, 0, 0)", x.dower(0, 0, 0), 4);
        Due.is("dower(0, 0, 1)", x.dower(0, 0, 1), 1);
        Due.is("dower(0, 0, 2)", x.dower(0, 0, 2), 10);
        Due.is("dower(0, 0, 3)", x.dower(0, 0, 3), 0);
        Due.is("dower(0, 0, 4)", x.dower(0, 0, 4), -1);
        Due.is("dower(0, 0, -1)", x.dower(0, 0, -1), -1);
        Due.is("dower(0, 1, 0)", x.dower(0, 1, 0), -1);
        Due.is("dower(0, -1, 0)", x.dower(0, -1, 0), -1);
        Due.is("dower(2, 0, 0)", x.dower(2, 0, 0), -1);
        Due.is("dower(-1, 0, 0)", x.dower(-1, 0, 0), -1);
        x.marry(0, -1);
        Due.is("no wife", x.dower(0, 0, 0), -1);
        x.marry(0, 1);
        x.born(1, 5001, 5001);
        Due.is("wife not born", x.dower(0, 0, 0), -1);
        x.born(1, 5000, 5001);
        Due.is("wife born", x.dower(0, 0, 0), 4);
        x.dies(1, 5001);
        Due.is("wife alive then", x.dower(0, 0, 0), 4);
        Due.is("no man", x.dower(1, 0, 0), -1);
        x.person(1, -1, -1, 100, 100);
        x.dies(2, 5000);
        x.marry(0, 2);
        Due.is("wife dead on that DAY", x.dower(0, 0, 0), -1);
    }

    private static void dowerSets() {
        InquestHall x = Due.hallOn(9000);
        x.reign(6000);
        Due.law(x, 0, "dower 1 of 2;");
        Due.law(x, 1, "dower 0 of 9;");
        x.person(0, -1, -1, 0, 0);
        x.person(0, -1, -1, 0, 0);
        x.person(1, -1, -1, 100, 100);
        x.marry(0, 2);
        x.marry(1, 2);
        x.dies(0, 5999);
        x.dies(1, 6000);
        x.land(0, 0, -1);
        int[] worth = {10, 10, 10, 10, 0, 0};
        int[] place = {1, 50, 52, 99, 0, 99};
        for (int a = 0; a < 6; a++) {
            x.acre(0, a, worth[a], place[a]);
        }
        // of the pairs the ones at 50 and 52 lie closest
        Due.is("due", x.dower(0, 0, 0), 20);
        Due.is("set", x.dower(0, 0, 1), 6);
        Due.is("worth", x.dower(0, 0, 2), 20);
        Due.is("spread", x.dower(0, 0, 3), 2);
        x.acre(0, 2, 10, 99);
        Due.is("the closest", x.dower(0, 0, 1), 12);
        x.acre(0, 1, 10, 1);
        Due.is("the least number", x.dower(0, 0, 1), 3);
        x.acre(0, 4, 1, 3);
        Due.is("due, upwards", x.dower(0, 0, 0), 21);
        Due.is("the least worth", x.dower(0, 0, 2), 21);
        Due.is("set", x.dower(0, 0, 1), 19);
        Due.is("spread", x.dower(0, 0, 3), 2);
        Due.is("nothing due", x.dower(1, 0, 0), 0);
        Due.is("empty", x.dower(1, 0, 1), 0);
        Due.is("worth 0", x.dower(1, 0, 2), 0);
        Due.is("spread 0", x.dower(1, 0, 3), 0);
        Due.law(x, 0, "dower 99999 of 99999;");
        Due.is("all due", x.dower(0, 0, 0), 41);
        Due.is("all with worth", x.dower(0, 0, 1), 31);
        Due.is("spread", x.dower(0, 0, 3), 98);
    }
}
