/**
 * "..., and nothing is done, if one can't be": each argument of each call that changes something, one too small, one
 * too large, none such; beside it a call at the very edge that is well. World looks whether anything has changed.
 */
public final class RefusedTest {
    private static final int MAX = Integer.MAX_VALUE;
    private static final int MIN = Integer.MIN_VALUE;

    public static void main(String[] args) {
        newObject();
        days();
        person();
        births();
        dies();
        marry();
        born();
        land();
        acre();
        reign();
        tape();
        texts();
        faults();
        seize();
        traverse();
        events();
        proved();
        juries();
        asking();
        Due.end();
    }

    /** Promise 1, "REIGN 0 from DAY 0 on, nobody.": on DAY 0, and nothing that could be asked for. */
    private static void newObject() {
        InquestHall x = new InquestHall();
        for (int what = 0; what < 6; what++) {
            Due.is("of", x.of(0, what), -1);
            Due.is("landOf", x.landOf(0, what), -1);
            Due.is("share", x.share(0, 0, 0, what), -1);
            Due.is("ward", x.ward(0, 0, 0, what), -2);
            Due.is("seizing", x.seizing(0, what), -2);
            Due.is("proof", x.proof(0, what), -1);
            Due.is("dower", x.dower(0, 0, what), -1);
        }
        Due.is("heirs", x.heirs(0, 0), -1);
        Due.is("relief", x.relief(0, 0, 0), -1);
        Due.is("holder", x.holder(0, 0, 0), -3);
        Due.is("traverse", x.traverse(0), -1);
        Due.is("chain", x.chain(0, 0), -2);
        Due.is("FEWEST", x.quarrel(1), 0);
        Due.is("REIGN 0 on the first DAY", x.lawOn(0, 0), 0);
        Due.is("REIGN 0 on the last DAY", x.lawOn(29999, 0), 0);
        Due.no("none else", x.reads(1) != -1);
        Due.no("the TAPE is empty", x.end(1));
        Due.is("BORN on DAY 1", x.person(0, -1, -1, 0, 1), -1);
        Due.is("BORN on DAY 0", x.person(0, -1, -1, 0, 0), 0);
        Due.is("no EVENT", Due.memories(x, 0, "before 0;"), -1);
        Due.is("its FAULT", x.fault(0), 2);
        Due.is("a DAY goes by", x.days(1), 1);
    }

    /** Promise 2: 1 .. 9999; DAYS end with 29999. */
    private static void days() {
        for (int n : new int[] {0, -1, 10000, MAX, MIN}) {
            World.refuses("days(" + n + ")", x -> x.days(n), -1);
        }
        World.takes("days(1)", x -> x.days(1), 5001);
        World.takes("days(9999)", x -> x.days(9999), 14999);
        InquestHall y = Due.hallOn(29998);
        Due.is("days(2) on 29998", y.days(2), -1);
        Due.is("days(1) on 29998", y.days(1), 29999);
        Due.is("days(1) on 29999", y.days(1), -1);
        Due.is("a birth on 29999", y.person(0, -1, -1, 29999, 29999), 0);
        Due.is("and not on 30000", y.person(0, -1, -1, 29999, 30000), -1);
    }

    /** Promise 3, "of those that came ahead, of their SEX, or NONE". */
    private static void person() {
        for (int sex : new int[] {-1, 2, MAX, MIN}) {
            World.refuses("person of sex " + sex, x -> x.person(sex, -1, -1, 5, 5), -1);
        }
        for (int father : new int[] {-2, 1, 3, 5, MAX, MIN}) {
            World.refuses("person with father " + father, x -> x.person(0, father, -1, 5, 5), -1);
        }
        for (int mother : new int[] {-2, 0, 2, 4, 5, MAX, MIN}) {
            World.refuses("person with mother " + mother, x -> x.person(1, -1, mother, 5, 5), -1);
        }
        World.takes("person(0, 4, 3, 5, 5)", x -> x.person(0, 4, 3, 5, 5), 5);
        World.takes("person(1, 0, -1, 5, 5)", x -> x.person(1, 0, -1, 5, 5), 5);
        World.takes("person(1, -1, 1, 5, 5)", x -> x.person(1, -1, 1, 5, 5), 5);
    }

    /** Promise 3, "low above high, high above NOW". */
    private static void births() {
        World.refuses("low above high", x -> x.person(0, -1, -1, 6, 5), -1);
        World.refuses("high above NOW", x -> x.person(0, -1, -1, 5, 5001), -1);
        World.refuses("high far above", x -> x.person(0, -1, -1, 5, MAX), -1);
        World.refuses("low below 0", x -> x.person(0, -1, -1, -1, 5), -1);
        World.refuses("low far below", x -> x.person(0, -1, -1, MIN, 5), -1);
        World.refuses("both below 0", x -> x.person(0, -1, -1, -2, -1), -1);
        World.refuses("both above NOW", x -> x.person(0, -1, -1, 5001, 5001), -1);
        World.takes("0 .. NOW", x -> x.person(0, -1, -1, 0, 5000), 5);
        World.takes("NOW .. NOW", x -> x.person(0, -1, -1, 5000, 5000), 5);
    }

    /** Promise 4, "from BORN's low on, up to NOW" and "or p is dead". */
    private static void dies() {
        for (int p : new int[] {-1, 5, MAX, MIN}) {
            World.refuses("dies(" + p + ", 4000)", x -> x.dies(p, 4000));
        }
        for (int day : new int[] {999, -1, 5001, MAX, MIN}) {
            World.refuses("dies(2, " + day + ")", x -> x.dies(2, day));
        }
        World.refuses("dies(0, 4000), that is dead", x -> x.dies(0, 4000));
        World.refuses("dies(0, 4001), that is dead", x -> x.dies(0, 4001));
        World.takes("dies(2, 1000)", x -> x.dies(2, 1000));
        World.takes("dies(2, 1050), within BORN", x -> x.dies(2, 1050));
        World.takes("dies(2, 5000)", x -> x.dies(2, 5000));
    }

    /** Promise 5, "Man p has WIFE q (NONE: none any more)". */
    private static void marry() {
        for (int p : new int[] {-1, 1, 3, 5, MAX, MIN}) {
            World.refuses("marry(" + p + ", 3)", x -> x.marry(p, 3));
            World.refuses("marry(" + p + ", -1)", x -> x.marry(p, -1));
        }
        for (int q : new int[] {-2, 0, 2, 4, 5, MAX, MIN}) {
            World.refuses("marry(0, " + q + ")", x -> x.marry(0, q));
        }
        World.takes("marry(0, 3)", x -> x.marry(0, 3));
        World.takes("marry(0, -1)", x -> x.marry(0, -1));
    }

    /** Promise 7, "high at most NOW", "or p would have DIED ahead of low". */
    private static void born() {
        for (int p : new int[] {-1, 5, MAX, MIN}) {
            World.refuses("born(" + p + ", 5, 5)", x -> x.born(p, 5, 5));
        }
        World.refuses("low above high", x -> x.born(2, 6, 5));
        World.refuses("high above NOW", x -> x.born(2, 5, 5001));
        World.refuses("high far above", x -> x.born(2, 5, MAX));
        World.refuses("low below 0", x -> x.born(2, -1, 5));
        World.refuses("low far below", x -> x.born(2, MIN, MAX));
        World.refuses("would have DIED ahead of low", x -> x.born(0, 4001, 4001));
        World.takes("DIED on low", x -> x.born(0, 4000, 4001));
        World.takes("0 .. NOW", x -> x.born(2, 0, 5000));
        World.takes("NOW .. NOW", x -> x.born(2, 5000, 5000));
    }

    /** Promise 8, "a SHIRE 0 .. 3, a SERVICE (0, 1, 2), LORD: one of PEOPLE, or NONE". */
    private static void land() {
        for (int shire : new int[] {-1, 4, MAX, MIN}) {
            World.refuses("land(" + shire + ", 0, -1)", x -> x.land(shire, 0, -1), -1);
        }
        for (int service : new int[] {-1, 3, MAX, MIN}) {
            World.refuses("land(0, " + service + ", -1)", x -> x.land(0, service, -1), -1);
        }
        for (int lord : new int[] {-2, 5, MAX, MIN}) {
            World.refuses("land(0, 0, " + lord + ")", x -> x.land(0, 0, lord), -1);
        }
        World.takes("land(0, 0, -1)", x -> x.land(0, 0, -1), 2);
        World.takes("land(3, 2, 4)", x -> x.land(3, 2, 4), 2);
        World.takes("land(0, 0, 0), of a dead lord", x -> x.land(0, 0, 0), 2);
    }

    /** Promise 9, "ACRES 0 .. 5 with a WORTH (0 .. 99) and a PLACE (0 .. 99)". */
    private static void acre() {
        for (int l : new int[] {-1, 2, MAX, MIN}) {
            World.refuses("acre(" + l + ", 0, 1, 1)", x -> x.acre(l, 0, 1, 1));
        }
        for (int a : new int[] {-1, 6, MAX, MIN}) {
            World.refuses("acre(0, " + a + ", 1, 1)", x -> x.acre(0, a, 1, 1));
            World.refuses("acre(1, " + a + ", 1, 1)", x -> x.acre(1, a, 1, 1));
        }
        for (int wrong : new int[] {-1, 100, MAX, MIN}) {
            World.refuses("acre(0, 0, " + wrong + ", 1)", x -> x.acre(0, 0, wrong, 1));
            World.refuses("acre(0, 0, 1, " + wrong + ")", x -> x.acre(0, 0, 1, wrong));
        }
        World.takes("acre(0, 0, 0, 0)", x -> x.acre(0, 0, 0, 0));
        World.takes("acre(1, 5, 99, 99)", x -> x.acre(1, 5, 99, 99));
    }

    /** Promise 11, "not behind the latest one's, above 29999". */
    private static void reign() {
        for (int day : new int[] {4500, 4499, 0, -1, 30000, MAX, MIN}) {
            World.refuses("reign(" + day + ")", x -> x.reign(day), -1);
        }
        World.takes("reign(4501)", x -> x.reign(4501), 2);
        World.takes("reign(29999)", x -> x.reign(29999), 2);
    }

    /** Promises 12 and 13, "if there would be more than 800", "has not so many, or n is below 0". */
    private static void tape() {
        for (int n : new int[] {8, 800, -1, MAX, MIN}) {
            World.refuses("end(" + n + ")", x -> x.end(n));
        }
        World.takes("end(0)", x -> x.end(0));
        World.takes("end(6)", x -> x.end(6));
        World.refuses("end(7), of all it has", x -> x.end(7) ? 1 : 0, 1);
        World.takes("feed", x -> x.feed(0, 0, 0, 0, 0), 27);
        InquestHall y = new InquestHall();
        for (int n = 1; n <= 40; n++) {
            Due.is("feed " + n, y.feed(0x20202020, 0x20202020, 0x20202020, 0x20202020, 0x20202020), 20 * n);
        }
        Due.is("feed of a full TAPE", y.feed(MIN, MIN, MIN, MIN, MIN), -1);
        Due.no("end(801)", y.end(801));
        Due.yes("end(800)", y.end(800));
        Due.yes("end(781)", y.end(781));
        Due.is("feed behind 781", y.feed(MIN, MIN, MIN, MIN, MIN), -1);
        Due.no("nothing came", y.end(782));
        Due.is("blanks alone", y.reads(0), 0);
    }

    /** Promises 14, 15 and 27, 28: the TAPE is empty then, all else stays as it was. */
    private static void texts() {
        for (int r : new int[] {-1, 2, MAX, MIN}) {
            emptied("reads(" + r + ")", Due.law(World.made(), r, "writ 7;"), x -> x.reads(r));
            emptied("memories(" + r + ")", -1, x -> x.memories(r < 0 || r > 5 ? r : 5));
        }
        for (int p : new int[] {-1, 5, MAX, MIN}) {
            World.refuses("forget(" + p + ")", x -> x.forget(p));
        }
        World.takes("forget(2)", x -> x.forget(2));
        World.refuses("forget(3), that has none", x -> x.forget(3) ? 1 : 0, 1);
        World.takes("reads(1)", x -> x.reads(1), 1);
        World.takes("memories(3), a FAULT", x -> x.memories(3), -1);
    }

    private static void emptied(String call, long due, java.util.function.ToLongFunction<InquestHall> asked) {
        InquestHall x = World.made();
        Due.is(call, asked.applyAsLong(x), due);
        InquestHall y = World.made();
        y.end(0);
        Due.yes(call + " does nothing but empty the TAPE", World.told(x).equals(World.told(y)));
    }

    /** Promise 22, "from a DAY on (at most NOW)", "hangs NONE: on none; death NONE, or one that DIED". */
    private static void seize() {
        for (int l : new int[] {-1, 2, MAX, MIN}) {
            World.refuses("seize(" + l + ", 0, 5, -1, -1)", x -> x.seize(l, 0, 5, -1, -1), -1);
        }
        for (int holder : new int[] {-2, 5, MAX, MIN}) {
            World.refuses("seize(0, " + holder + ", 5, -1, -1)", x -> x.seize(0, holder, 5, -1, -1), -1);
        }
        for (int day : new int[] {-1, 5001, MAX, MIN}) {
            World.refuses("seize(0, 0, " + day + ", -1, -1)", x -> x.seize(0, 0, day, -1, -1), -1);
        }
        for (int hangs : new int[] {-2, 1, 3, MAX, MIN}) {
            World.refuses("seize(0, 0, 5, " + hangs + ", -1)", x -> x.seize(0, 0, 5, hangs, -1), -1);
        }
        for (int death : new int[] {-2, 1, 5, MAX, MIN}) {
            World.refuses("seize(0, 0, 5, -1, " + death + ")", x -> x.seize(0, 0, 5, -1, death), -1);
        }
        World.takes("seize(0, -1, 0, -1, -1)", x -> x.seize(0, -1, 0, -1, -1), 3);
        World.takes("seize(1, 4, 5000, 2, 0)", x -> x.seize(1, 4, 5000, 2, 0), 3);
    }

    /** Promise 23, "none such, it is VOID, or too late". */
    private static void traverse() {
        for (int e : new int[] {-1, 1, 3, MAX, MIN}) {
            World.refuses("traverse(" + e + ")", x -> x.traverse(e), -1);
        }
        World.takes("traverse(0)", x -> x.traverse(0), 1);
        World.takes("traverse(2)", x -> x.traverse(2), 1);
    }

    /** Promise 26, "EVENTS 0 .. 15 have a DAY". */
    private static void events() {
        for (int e : new int[] {-1, 16, MAX, MIN}) {
            World.refuses("event(" + e + ", 5)", x -> x.event(e, 5));
        }
        for (int day : new int[] {-1, 30000, MAX, MIN}) {
            World.refuses("event(0, " + day + ")", x -> x.event(0, day));
        }
        World.takes("event(1, 0)", x -> x.event(1, 0));
        World.takes("event(1, 29999)", x -> x.event(1, 29999));
    }

    /** Promise 30, "if it is not SURE, or that can't be". */
    private static void proved() {
        for (int p : new int[] {-1, 3, 5, MAX, MIN}) {
            World.refuses("proved(" + p + ")", x -> x.proved(p));
        }
        World.takes("proved(2)", x -> x.proved(2));
    }

    /** Promises 31 and 32, "if one can't be (the same)", "false if there is none". */
    private static void juries() {
        for (int j : new int[] {-1, 10, MAX, MIN}) {
            World.refuses("find(" + j + ", 0, 1)", x -> x.find(j, 0, 1));
            World.refuses("unsay(" + j + ", 0)", x -> x.unsay(j, 0));
        }
        for (int l : new int[] {-1, 2, MAX, MIN}) {
            World.refuses("find(0, " + l + ", 1)", x -> x.find(0, l, 1));
            World.refuses("unsay(0, " + l + ")", x -> x.unsay(0, l));
        }
        for (int m : new int[] {-2, 0, 2, MAX, MIN}) {
            World.refuses("find(0, 0, " + m + ")", x -> x.find(0, 0, m));
        }
        World.refuses("unsay(0, 1), never said", x -> x.unsay(0, 1));
        World.takes("find(9, 1, 0)", x -> x.find(9, 1, 0));
        World.takes("find(0, 0, -1)", x -> x.find(0, 0, -1));
        World.takes("unsay(1, 0)", x -> x.unsay(1, 0));
    }

    /** Promise 15, "Of the latest reads(), memories() (of a REIGN, a person that there is)": either in place of the other. */
    private static void faults() {
        InquestHall x = World.made();
        x.end(0);
        Due.is("a FAULT of a LAW", Due.law(x, 0, "heirs all in 4;"), -1);
        fault(x, 2, 13);
        Due.is("one of MEMORIES", Due.memories(x, 2, "before"), -1);
        fault(x, 1, 6);
        Due.is("none such", Due.law(x, 2, "heirs all in 4;"), -1);
        Due.is("none such", Due.memories(x, 5, "after 0;"), -1);
        fault(x, 1, 6);
        Due.is("good MEMORIES", Due.memories(x, 2, "after 0;"), 1);
        fault(x, 0, -1);
        Due.is("one too many", Due.memories(x, 2, "after 0;".repeat(22)), -1);
        fault(x, 3, 168);
        Due.is("a good LAW", Due.law(x, 1, ""), 0);
        fault(x, 0, -1);
    }

    private static void fault(InquestHall x, int what, int place) {
        Due.is("fault(0)", x.fault(0), what);
        Due.is("fault(1)", x.fault(1), place);
        Due.is("fault(2)", x.fault(2), -1);
    }

    /** What is only asked changes nothing, however it is asked. */
    private static void asking() {
        for (int n : new int[] {-2, -1, 0, 1, 2, 5, 6, 10, 12, 30000, MAX, MIN}) {
            InquestHall x = World.made();
            for (int m : new int[] {-1, 0, 2, MAX, MIN}) {
                x.of(m, n);
                x.landOf(m, n);
                x.lawOn(m, n);
                x.heirs(m, n);
                x.share(m, n, 2, 0);
                x.share(0, 0, n, m);
                x.ward(m, n, 2, 3);
                x.ward(0, 0, n, m);
                x.relief(m, n, 2);
                x.relief(0, m, n);
                x.dower(m, n, 0);
                x.dower(0, m, n);
                x.seizing(m, n);
                x.holder(0, m, n);
                x.proof(m, n);
                x.chain(m, n);
            }
            x.fault(n);
            x.quarrel(n);
            Due.yes("asking by " + n + " does nothing", World.told(x).equals(World.told(World.made())));
        }
    }
}
