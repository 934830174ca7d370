import java.util.StringJoiner;
import java.util.function.ToLongFunction;

/** A small hall with something of everything in it, and all that it answers, to see that a refused call does nothing. */
final class World {
    static final int NOW = 5000;

    private World() {
    }

    /**
     * Man 0 (dead) with wife 1, son 2, daughter 3, of lord 4; lands 0 (of 4) and 1 (of the king); seizings 0, 1 (VOID),
     * 2; reigns 0 and 1; events 0 and 1; two memories of 2; juries 0 and 1 that quarrel; "writ 1;" on the TAPE.
     */
    static InquestHall made() {
        InquestHall x = Due.hallOn(NOW);
        x.person(0, -1, -1, 0, 0);
        x.person(1, -1, -1, 100, 100);
        x.person(0, 0, 1, 1000, 1100);
        x.person(1, 0, 1, 1200, 1200);
        x.person(0, -1, -1, 50, 60);
        x.land(1, 0, 4);
        x.land(2, 1, -1);
        x.acre(0, 0, 30, 5);
        x.acre(0, 1, 20, 9);
        x.acre(0, 5, 11, 90);
        x.marry(0, 1);
        x.dies(0, 4000);
        x.reign(4500);
        Due.law(x, 0, "heirs all in 2;ward knight until 21 maid 14 to kin;relief worth/2+1;writ 500;traverse 100;dower 1 of 2;");
        x.event(0, 900);
        x.event(1, 2000);
        Due.memories(x, 2, "after 0;100 days before 1;");
        x.seize(0, 0, 100, -1, -1);
        x.seize(0, 2, 4000, 0, 0);
        x.seize(1, 0, 3000, -1, -1);
        x.find(0, 0, 1);
        x.find(1, 0, -1);
        Due.law(x, 0, "writ x");
        Due.tape(x, "writ 1;");
        return x;
    }

    /** All that a hall made here answers, in some 270 calls. */
    static String told(InquestHall x) {
        StringJoiner all = new StringJoiner(" ");
        rows(x, all);
        estate(x, all);
        for (int e = 0; e < 4; e++) {
            for (int what = 0; what < 6; what++) {
                all.add("" + x.seizing(e, what));
            }
        }
        for (int l = 0; l < 2; l++) {
            all.add(x.holder(l, 99, NOW) + " " + x.holder(l, 4000, NOW) + " " + x.holder(l, 4000, NOW - 1));
            all.add("" + x.chain(l, 0));
        }
        for (int what = 0; what < 5; what++) {
            all.add(x.proof(2, what) + " " + x.proof(3, what));
        }
        all.add(x.quarrel(0) + " " + x.quarrel(1) + " " + x.fault(0) + " " + x.fault(1));
        int length = 40;
        while (length > 0 && !x.end(length)) {
            length--;
        }
        all.add(length + " " + x.reads(1) + " " + x.lawOn(NOW, 3) + " " + x.days(1));
        return all.toString();
    }

    private static void rows(InquestHall x, StringJoiner all) {
        for (int p = 0; p < 6; p++) {
            for (int what = 0; what < 8; what++) {
                all.add("" + x.of(p, what));
            }
        }
        for (int l = 0; l < 3; l++) {
            for (int what = 0; what < 26; what += what == 3 ? 7 : what == 15 ? 5 : 1) {
                all.add("" + x.landOf(l, what));
            }
        }
        for (int what = 0; what < 19; what++) {
            all.add(x.lawOn(4499, what) + " " + x.lawOn(4500, what));
        }
        all.add("" + x.lawOn(29999, 0));
    }

    private static void estate(InquestHall x, StringJoiner all) {
        for (int l = 0; l < 2; l++) {
            all.add("" + x.heirs(0, l));
            for (int what = 0; what < 6; what++) {
                all.add(x.share(0, l, 2, what) + " " + x.share(0, l, 3, what) + " " + x.ward(0, l, 2, what));
            }
            all.add("" + x.relief(0, l, 2));
            for (int what = 0; what < 4; what++) {
                all.add("" + x.dower(0, l, what));
            }
        }
    }

    /** A call on a hall made here that answers as is due, and changes nothing. */
    static void refuses(String call, ToLongFunction<InquestHall> asked, long due) {
        InquestHall x = made();
        Due.is(call, asked.applyAsLong(x), due);
        Due.yes(call + " does nothing", told(x).equals(told(made())));
    }

    static void refuses(String call, java.util.function.Predicate<InquestHall> asked) {
        refuses(call, x -> asked.test(x) ? 1 : 0, 0);
    }

    /** A call that is well, so that what is refused beside it is refused for its own sake. */
    static void takes(String call, ToLongFunction<InquestHall> asked, long due) {
        InquestHall x = made();
        Due.is(call, asked.applyAsLong(x), due);
        Due.no(call + " does something", told(x).equals(told(made())));
    }

    static void takes(String call, java.util.function.Predicate<InquestHall> asked) {
        takes(call, x -> asked.test(x) ? 1 : 0, 1);
    }
}
