/** Promises 8 to 10: land, acre, landOf. */
public final class LandsTest {
    public static void main(String[] args) {
        InquestHall x = new InquestHall();
        x.person(1, -1, -1, 0, 0);
        Due.is("shire 4", x.land(4, 0, -1), -1);
        Due.is("shire -1", x.land(-1, 0, -1), -1);
        Due.is("service 3", x.land(0, 3, -1), -1);
        Due.is("service -1", x.land(0, -1, -1), -1);
        Due.is("lord 1", x.land(0, 0, 1), -1);
        Due.is("lord -2", x.land(0, 0, -2), -1);
        Due.is("land 0", x.land(3, 2, 0), 0);
        Due.is("land 1", x.land(0, 1, -1), 1);
        Due.is("landOf(0, 0)", x.landOf(0, 0), 3);
        Due.is("landOf(0, 1)", x.landOf(0, 1), 2);
        Due.is("landOf(0, 2)", x.landOf(0, 2), 0);
        Due.is("landOf(0, 3)", x.landOf(0, 3), 0);
        Due.is("landOf(1, 2)", x.landOf(1, 2), -1);
        acres(x);
        for (int l = 2; l < 12; l++) {
            Due.is("land " + l, x.land(0, 0, -1), l);
        }
        Due.is("the 13th", x.land(0, 0, -1), -1);
        Due.is("landOf(11, 1)", x.landOf(11, 1), 0);
        Due.is("landOf(12, 1)", x.landOf(12, 1), -1);
        Due.end();
    }

    private static void acres(InquestHall x) {
        Due.no("acre 6", x.acre(0, 6, 1, 1));
        Due.no("acre -1", x.acre(0, -1, 1, 1));
        Due.no("worth 100", x.acre(0, 0, 100, 1));
        Due.no("worth -1", x.acre(0, 0, -1, 1));
        Due.no("place 100", x.acre(0, 0, 1, 100));
        Due.no("place -1", x.acre(0, 0, 1, -1));
        Due.no("land 2", x.acre(2, 0, 1, 1));
        Due.no("land -1", x.acre(-1, 0, 1, 1));
        for (int a = 0; a < 6; a++) {
            Due.is("worth at first", x.landOf(0, 10 + a), 0);
            Due.is("place at first", x.landOf(0, 20 + a), 0);
            Due.yes("acre " + a, x.acre(0, a, 99 - a, 94 + a));
        }
        for (int a = 0; a < 6; a++) {
            Due.is("worth " + a, x.landOf(0, 10 + a), 99 - a);
            Due.is("place " + a, x.landOf(0, 20 + a), 94 + a);
        }
        Due.is("landOf(0, 3)", x.landOf(0, 3), 6 * 99 - 15);
        Due.yes("anew", x.acre(0, 5, 0, 0));
        Due.is("landOf(0, 3)", x.landOf(0, 3), 5 * 99 - 10);
        Due.is("landOf(1, 3)", x.landOf(1, 3), 0);
        int[] others = {-1, 4, 9, 16, 19, 26, Integer.MAX_VALUE, Integer.MIN_VALUE};
        for (int what : others) {
            Due.is("landOf(0, " + what + ")", x.landOf(0, what), -1);
        }
    }
}
