/** Promises 17 and 18: heirs, share. */
public final class HeirsTest {
    public static void main(String[] args) {
        refused();
        customs();
        aliveAndBorn();
        daughters();
        up();
        twice();
        sure();
        sureWithin();
        lawOfTheDay();
        deep();
        Due.end();
    }

    private static void share(InquestHall x, int p, int l, int q, long above, long below) {
        Due.is("share(" + p + ", " + l + ", " + q + ", 0)", x.share(p, l, q, 0), above);
        Due.is("share(" + p + ", " + l + ", " + q + ", 1)", x.share(p, l, q, 1), below);
    }

    private static void bounds(InquestHall x, int p, int l, int q, long... due) {
        for (int what = 2; what <= 5; what++) {
            Due.is("share(" + p + ", " + l + ", " + q + ", " + what + ")", x.share(p, l, q, what), due[what - 2]);
        }
    }

    private static void refused() {
        InquestHall x = Due.hallOn(1000);
        x.person(0, -1, -1, 0, 0);
        x.person(0, 0, -1, 10, 10);
        Due.is("no land", x.heirs(0, 0), -1);
        x.land(0, 0, -1);
        Due.is("p lives", x.heirs(0, 0), -1);
        Due.is("p lives", x.share(0, 0, 1, 0), -1);
        x.dies(0, 500);
        Due.is("heirs(0, 0)", x.heirs(0, 0), 1);
        Due.is("heirs(0, 1)", x.heirs(0, 1), -1);
        Due.is("heirs(0, -1)", x.heirs(0, -1), -1);
        Due.is("heirs(2, 0)", x.heirs(2, 0), -1);
        Due.is("heirs(-1, 0)", x.heirs(-1, 0), -1);
        Due.is("share what 6", x.share(0, 0, 1, 6), -1);
        Due.is("share what -1", x.share(0, 0, 1, -1), -1);
        Due.is("share of 2", x.share(0, 0, 2, 0), -1);
        Due.is("share of -1", x.share(0, 0, -1, 0), -1);
        Due.is("share land 1", x.share(0, 1, 1, 0), -1);
        share(x, 0, 0, 1, 1, 1);
        share(x, 0, 0, 0, 0, 1);
        bounds(x, 0, 0, 0, 0, 1, 0, 1);
    }

    /** Man 0 with sons 1, 2, 3 of the same span of low, daughter 4; lands by eldest, youngest, all. */
    private static void customs() {
        InquestHall x = Due.hallOn(9000);
        Due.law(x, 0, "heirs youngest in 1;heirs all in 2;");
        x.person(0, -1, -1, 0, 0);
        x.person(0, 0, -1, 2000, 2010);
        x.person(0, 0, -1, 2000, 2005);
        x.person(0, 0, -1, 2000, 2005);
        x.person(1, 0, -1, 1000, 1000);
        x.dies(0, 8000);
        for (int s = 0; s < 3; s++) {
            x.land(s, 0, -1);
        }
        share(x, 0, 0, 2, 1, 1);
        share(x, 0, 0, 3, 0, 1);
        share(x, 0, 1, 1, 1, 1);
        Due.is("heirs(0, 2)", x.heirs(0, 2), 3);
        share(x, 0, 2, 1, 1, 3);
        share(x, 0, 2, 3, 1, 3);
        share(x, 0, 2, 4, 0, 1);
        bounds(x, 0, 2, 1, 1, 3, 1, 3);
        x.born(3, 2001, 2001);
        share(x, 0, 1, 3, 1, 1);
        x.born(3, 1999, 2001);
        share(x, 0, 0, 3, 1, 1);
        share(x, 0, 1, 1, 1, 1);
    }

    private static void aliveAndBorn() {
        InquestHall x = Due.hallOn(9000);
        Due.law(x, 0, "heirs all;");
        x.land(0, 0, -1);
        x.person(0, -1, -1, 0, 0);
        x.person(0, 0, -1, 5000, 6000);
        x.person(0, 0, -1, 5001, 5001);
        x.person(0, 0, -1, 100, 100);
        x.dies(3, 5000);
        x.dies(0, 5000);
        // BORN on the DAY counts, behind it does not; dead on the DAY counts as dead
        Due.is("heirs(0, 0)", x.heirs(0, 0), 1);
        share(x, 0, 0, 1, 1, 1);
        x.person(0, -1, -1, 0, 0);
        x.person(0, 4, -1, 100, 100);
        x.dies(5, 5001);
        x.dies(4, 5000);
        share(x, 4, 0, 5, 1, 1);
    }

    private static void daughters() {
        InquestHall x = Due.hallOn(9000);
        x.land(0, 0, -1);
        x.person(0, -1, -1, 0, 0);
        x.person(1, -1, -1, 0, 0);
        x.person(1, 0, 1, 1000, 1000);
        x.person(1, 0, 1, 1100, 1100);
        x.person(1, 0, 1, 1200, 1200);
        x.person(0, -1, 3, 3000, 3000);
        x.person(1, -1, 4, 3000, 3000);
        x.person(1, -1, 4, 3100, 3100);
        x.dies(3, 4000);
        x.dies(4, 4000);
        x.dies(0, 5000);
        Due.is("heirs(0, 0)", x.heirs(0, 0), 4);
        share(x, 0, 0, 2, 1, 3);
        share(x, 0, 0, 5, 1, 3);
        share(x, 0, 0, 6, 1, 6);
        share(x, 0, 0, 7, 1, 6);
        share(x, 0, 0, 1, 0, 1);
        // a dead son with a daughter is ahead of living daughters
        x.person(0, 0, -1, 2000, 2000);
        x.person(1, 8, -1, 4000, 4000);
        x.dies(8, 4500);
        Due.is("heirs(0, 0)", x.heirs(0, 0), 1);
        share(x, 0, 0, 9, 1, 1);
        // a mother's children are hers
        x.dies(1, 6000);
        Due.is("heirs(1, 0)", x.heirs(1, 0), 4);
        share(x, 1, 0, 7, 1, 6);
    }

    /** 0 the father's father, 1 the father (alive), 2 the dead one; 3 the father's brother. */
    private static void up() {
        InquestHall x = Due.hallOn(9000);
        x.land(0, 0, -1);
        x.person(0, -1, -1, 0, 0);
        x.person(0, 0, -1, 1000, 1000);
        x.person(0, 1, -1, 2000, 2000);
        x.person(0, 0, -1, 1100, 1100);
        x.dies(2, 5000);
        Due.is("heirs(2, 0)", x.heirs(2, 0), 1);
        share(x, 2, 0, 3, 1, 1);
        share(x, 2, 0, 1, 0, 1);
        x.person(1, 1, -1, 3000, 3000);
        share(x, 2, 0, 4, 1, 1);
        share(x, 2, 0, 3, 0, 1);
        x.dies(4, 4000);
        x.dies(3, 4000);
        Due.is("escheat", x.heirs(2, 0), 0);
        share(x, 2, 0, 3, 0, 1);
        bounds(x, 2, 0, 3, 0, 1, 0, 1);
        // never by the mother
        x.person(1, -1, -1, 0, 0);
        x.person(0, -1, 5, 1000, 1000);
        x.person(0, -1, 5, 1000, 1000);
        x.dies(6, 5000);
        Due.is("heirs(6, 0)", x.heirs(6, 0), 0);
    }

    /** Two daughters, the one's son and the other's daughter have a child that comes by both. */
    private static void twice() {
        InquestHall x = Due.hallOn(9000);
        x.land(0, 0, -1);
        x.person(0, -1, -1, 0, 0);
        x.person(1, 0, -1, 100, 100);
        x.person(1, 0, -1, 200, 200);
        x.person(0, -1, 1, 1000, 1000);
        x.person(1, -1, 2, 1100, 1100);
        x.person(1, -1, 2, 1200, 1200);
        x.person(0, 3, 4, 3000, 3000);
        for (int p = 1; p <= 4; p++) {
            x.dies(p, 4000);
        }
        x.dies(0, 5000);
        Due.is("heirs(0, 0)", x.heirs(0, 0), 2);
        share(x, 0, 0, 6, 3, 4);
        share(x, 0, 0, 5, 1, 4);
        bounds(x, 0, 0, 6, 3, 4, 3, 4);
        x.dies(5, 4000);
        Due.is("heirs(0, 0)", x.heirs(0, 0), 1);
        share(x, 0, 0, 6, 1, 1);
        bounds(x, 0, 0, 6, 1, 1, 1, 1);
    }

    private static void sure() {
        InquestHall x = Due.hallOn(9000);
        Due.law(x, 0, "heirs youngest in 1;");
        x.land(0, 0, -1);
        x.land(1, 0, -1);
        x.person(0, -1, -1, 0, 0);
        x.person(0, 0, -1, 1000, 2000);
        x.person(0, 0, -1, 2000, 3000);
        x.person(0, 0, -1, 2001, 2500);
        x.dies(0, 5000);
        share(x, 0, 0, 1, 1, 1);
        bounds(x, 0, 0, 1, 0, 1, 1, 1);
        bounds(x, 0, 0, 2, 0, 1, 1, 1);
        bounds(x, 0, 0, 3, 0, 1, 0, 1);
        share(x, 0, 1, 3, 1, 1);
        bounds(x, 0, 1, 1, 0, 1, 0, 1);
        bounds(x, 0, 1, 2, 0, 1, 1, 1);
        bounds(x, 0, 1, 3, 0, 1, 1, 1);
        x.born(1, 1000, 1999);
        bounds(x, 0, 0, 1, 1, 1, 1, 1);
        bounds(x, 0, 0, 2, 0, 1, 0, 1);
        x.born(1, 1000, 2001);
        bounds(x, 0, 0, 3, 0, 1, 1, 1);
        bounds(x, 0, 1, 1, 0, 1, 1, 1);
        // an empty LINE does not count
        x.dies(1, 4000);
        bounds(x, 0, 0, 1, 0, 1, 0, 1);
        bounds(x, 0, 0, 2, 0, 1, 1, 1);
    }

    /** The sons are dead, and each left two daughters, one of them common to both by her mother's kin. */
    private static void sureWithin() {
        InquestHall x = Due.hallOn(9000);
        x.land(0, 0, -1);
        x.person(0, -1, -1, 0, 0);
        x.person(0, 0, -1, 1000, 1500);
        x.person(0, 0, -1, 1100, 1500);
        x.person(1, 1, -1, 2000, 2000);
        x.person(1, 1, -1, 2000, 2000);
        x.person(1, 1, -1, 2000, 2000);
        x.person(1, 2, -1, 2000, 2000);
        x.person(1, 2, -1, 2000, 2000);
        x.person(0, -1, 3, 3000, 3000);
        x.person(1, 8, 6, 3500, 3500);
        int[] dead = {1, 2, 3, 6, 8};
        for (int p : dead) {
            x.dies(p, 4000);
        }
        x.dies(0, 5000);
        share(x, 0, 0, 9, 1, 3);
        bounds(x, 0, 0, 9, 1, 3, 1, 2);
        bounds(x, 0, 0, 4, 0, 1, 1, 3);
        bounds(x, 0, 0, 7, 0, 1, 1, 2);
        Due.is("heirs(0, 0)", x.heirs(0, 0), 3);
    }

    private static void lawOfTheDay() {
        InquestHall x = Due.hallOn(9000);
        x.reign(5000);
        Due.law(x, 1, "heirs youngest;");
        x.land(3, 0, -1);
        x.person(0, -1, -1, 0, 0);
        x.person(0, -1, -1, 0, 0);
        x.person(0, 0, -1, 1000, 1000);
        x.person(0, 0, -1, 2000, 2000);
        x.person(0, 1, -1, 1000, 1000);
        x.person(0, 1, -1, 2000, 2000);
        x.dies(0, 4999);
        x.dies(1, 5000);
        share(x, 0, 0, 2, 1, 1);
        share(x, 1, 0, 5, 1, 1);
    }

    /** Each couple is brother and sister: the last of 31 comes by very many ways, and has all. */
    private static void deep() {
        InquestHall x = Due.hallOn(9000);
        Due.law(x, 0, "heirs all;");
        x.land(0, 0, -1);
        x.person(0, -1, -1, 0, 0);
        for (int p = 1; p < 31; p++) {
            x.person(1, p == 1 ? 0 : -1, p == 1 ? -1 : p - 1, p, p);
        }
        x.person(0, 0, 30, 31, 31);
        for (int p = 1; p < 31; p++) {
            x.dies(p, 100);
        }
        x.dies(0, 100);
        Due.is("heirs(0, 0)", x.heirs(0, 0), 1);
        share(x, 0, 0, 31, 1, 1);
        InquestHall y = Due.hallOn(9000);
        Due.law(y, 0, "heirs all;");
        y.land(0, 0, -1);
        y.person(0, -1, -1, 0, 0);
        int parent = 0;
        for (int n = 0; n < 10; n++) {
            int first = y.person(0, parent, -1, 1, 1);
            y.person(0, parent, -1, 1, 1);
            y.person(0, parent, -1, 1, 1);
            if (n < 9) {
                y.dies(first, 2);
            }
            parent = first;
        }
        y.dies(0, 2);
        Due.is("heirs(0, 0)", y.heirs(0, 0), 21);
        share(y, 0, 0, parent, 1, 59049);
    }
}
