/** Promises 1 to 7: a new object, days, person, dies, marry, of, born. */
public final class PeopleTest {
    public static void main(String[] args) {
        newObject();
        days();
        person();
        limit();
        dies();
        marry();
        born();
        Due.end();
    }

    private static void newObject() {
        InquestHall x = new InquestHall();
        Due.is("NONE", InquestHall.NONE, -1);
        Due.is("of(0, 0)", x.of(0, 0), -1);
        Due.is("landOf(0, 0)", x.landOf(0, 0), -1);
        Due.is("lawOn(0, 0)", x.lawOn(0, 0), 0);
        Due.is("lawOn(29999, 0)", x.lawOn(29999, 0), 0);
        Due.is("seizing(0, 0)", x.seizing(0, 0), -2);
        Due.is("quarrel(0)", x.quarrel(0), 0);
        Due.is("fault(0)", x.fault(0), 0);
        Due.is("fault(1)", x.fault(1), -1);
        Due.is("person(0, -1, -1, 0, 1)", x.person(0, -1, -1, 0, 1), -1);
        Due.is("person(0, -1, -1, 0, 0)", x.person(0, -1, -1, 0, 0), 0);
        Due.is("reign(0)", x.reign(0), -1);
        Due.is("reign(1)", x.reign(1), 1);
    }

    private static void days() {
        InquestHall x = new InquestHall();
        Due.is("days(0)", x.days(0), -1);
        Due.is("days(-1)", x.days(-1), -1);
        Due.is("days(10000)", x.days(10000), -1);
        Due.is("days(MAX)", x.days(Integer.MAX_VALUE), -1);
        Due.is("days(1)", x.days(1), 1);
        Due.is("days(9999)", x.days(9999), 10000);
        Due.is("days(9999)", x.days(9999), 19999);
        Due.is("days(9999)", x.days(9999), 29998);
        Due.is("days(2)", x.days(2), -1);
        Due.is("days(1)", x.days(1), 29999);
        Due.is("days(1)", x.days(1), -1);
    }

    private static void person() {
        InquestHall x = Due.hallOn(1000);
        Due.is("a man", x.person(0, -1, -1, 10, 20), 0);
        Due.is("a woman", x.person(1, -1, -1, 1000, 1000), 1);
        Due.is("sex 2", x.person(2, -1, -1, 1, 1), -1);
        Due.is("sex -1", x.person(-1, -1, -1, 1, 1), -1);
        Due.is("father a woman", x.person(0, 1, -1, 1, 1), -1);
        Due.is("mother a man", x.person(0, -1, 0, 1, 1), -1);
        Due.is("father not there", x.person(0, 2, -1, 1, 1), -1);
        Due.is("mother not there", x.person(0, -1, 2, 1, 1), -1);
        Due.is("father -2", x.person(0, -2, -1, 1, 1), -1);
        Due.is("mother -2", x.person(0, -1, -2, 1, 1), -1);
        Due.is("low above high", x.person(0, -1, -1, 5, 4), -1);
        Due.is("high above NOW", x.person(0, -1, -1, 5, 1001), -1);
        Due.is("low below 0", x.person(0, -1, -1, -1, 4), -1);
        Due.is("a child", x.person(1, 0, 1, 0, 1000), 2);
        int[] child = {1, 0, 1, 0, 1000, -1, -1, 0, -1};
        for (int what = 0; what < child.length; what++) {
            Due.is("of(2, " + what + ")", x.of(2, what), child[what]);
        }
        int[] man = {0, -1, -1, 10, 20, -1, -1, 0};
        for (int what = 0; what < man.length; what++) {
            Due.is("of(0, " + what + ")", x.of(0, what), man[what]);
        }
        Due.is("of(3, 0)", x.of(3, 0), -1);
        Due.is("of(-1, 0)", x.of(-1, 0), -1);
        Due.is("of(0, -1)", x.of(0, -1), -1);
    }

    private static void limit() {
        InquestHall x = new InquestHall();
        for (int p = 0; p < 32; p++) {
            Due.is("person " + p, x.person(p % 2, -1, -1, 0, 0), p);
        }
        Due.is("the 33rd", x.person(0, -1, -1, 0, 0), -1);
        Due.is("of(31, 0)", x.of(31, 0), 1);
        Due.is("of(32, 0)", x.of(32, 0), -1);
    }

    private static void dies() {
        InquestHall x = Due.hallOn(1000);
        x.person(0, -1, -1, 100, 300);
        Due.no("ahead of low", x.dies(0, 99));
        Due.no("behind NOW", x.dies(0, 1001));
        Due.no("nobody", x.dies(1, 500));
        Due.no("below", x.dies(-1, 500));
        Due.is("of(0, 5)", x.of(0, 5), -1);
        Due.yes("on low", x.dies(0, 100));
        Due.no("twice", x.dies(0, 200));
        Due.is("of(0, 5)", x.of(0, 5), 100);
        x.person(1, -1, -1, 100, 300);
        Due.yes("on NOW", x.dies(1, 1000));
    }

    private static void marry() {
        InquestHall x = new InquestHall();
        x.person(0, -1, -1, 0, 0);
        x.person(1, -1, -1, 0, 0);
        x.person(1, -1, -1, 0, 0);
        Due.no("a woman", x.marry(1, 2));
        Due.no("to a man", x.marry(0, 0));
        Due.no("nobody", x.marry(3, 1));
        Due.no("to nobody there", x.marry(0, 3));
        Due.no("to -2", x.marry(0, -2));
        Due.is("of(0, 6)", x.of(0, 6), -1);
        Due.yes("to 1", x.marry(0, 1));
        Due.is("of(0, 6)", x.of(0, 6), 1);
        Due.is("of(1, 6)", x.of(1, 6), -1);
        Due.yes("to 2", x.marry(0, 2));
        Due.is("of(0, 6)", x.of(0, 6), 2);
        Due.yes("to none", x.marry(0, -1));
        Due.is("of(0, 6)", x.of(0, 6), -1);
    }

    private static void born() {
        InquestHall x = Due.hallOn(1000);
        x.person(0, -1, -1, 100, 300);
        Due.no("low above high", x.born(0, 301, 300));
        Due.no("high above NOW", x.born(0, 1, 1001));
        Due.no("low below 0", x.born(0, -1, 3));
        Due.no("nobody", x.born(1, 1, 3));
        Due.is("of(0, 3)", x.of(0, 3), 100);
        Due.is("of(0, 4)", x.of(0, 4), 300);
        Due.yes("0 .. NOW", x.born(0, 0, 1000));
        Due.is("of(0, 3)", x.of(0, 3), 0);
        Due.is("of(0, 4)", x.of(0, 4), 1000);
        Due.yes("dies", x.dies(0, 500));
        Due.no("behind death", x.born(0, 501, 501));
        Due.yes("on the DAY of death", x.born(0, 500, 900));
        Due.is("of(0, 4)", x.of(0, 4), 900);
    }
}
