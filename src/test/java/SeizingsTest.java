/** Promises 22 to 25: seize, traverse, seizing, holder. */
public final class SeizingsTest {
    public static void main(String[] args) {
        refused();
        rows();
        writ();
        traverse();
        lawOfTheTelling();
        asKnown();
        limit();
        Due.end();
    }

    private static InquestHall hall() {
        InquestHall x = Due.hallOn(5000);
        x.person(0, -1, -1, 0, 0);
        x.person(0, -1, -1, 0, 0);
        x.land(0, 0, -1);
        x.land(0, 0, -1);
        return x;
    }

    private static void refused() {
        InquestHall x = hall();
        Due.is("land 2", x.seize(2, 0, 1, -1, -1), -1);
        Due.is("land -1", x.seize(-1, 0, 1, -1, -1), -1);
        Due.is("holder 2", x.seize(0, 2, 1, -1, -1), -1);
        Due.is("holder -2", x.seize(0, -2, 1, -1, -1), -1);
        Due.is("day 5001", x.seize(0, 0, 5001, -1, -1), -1);
        Due.is("day -1", x.seize(0, 0, -1, -1, -1), -1);
        Due.is("hangs 0", x.seize(0, 0, 1, 0, -1), -1);
        Due.is("hangs -2", x.seize(0, 0, 1, -2, -1), -1);
        Due.is("death of one that lives", x.seize(0, 0, 1, -1, 0), -1);
        Due.is("death 2", x.seize(0, 0, 1, -1, 2), -1);
        Due.is("death -2", x.seize(0, 0, 1, -1, -2), -1);
        Due.is("nothing was done", x.seizing(0, 0), -2);
        Due.is("traverse(0)", x.traverse(0), -1);
        Due.is("traverse(-1)", x.traverse(-1), -1);
    }

    private static void rows() {
        InquestHall x = hall();
        Due.is("seize", x.seize(0, 1, 0, -1, -1), 0);
        x.days(7);
        Due.is("seize", x.seize(1, -1, 5007, 0, -1), 1);
        int[] first = {0, 1, 0, 5000, -1, -1, -2};
        int[] second = {1, -1, 5007, 5007, 0, -1, -2};
        for (int what = 0; what < 7; what++) {
            Due.is("seizing(0, " + what + ")", x.seizing(0, what), first[what]);
            Due.is("seizing(1, " + what + ")", x.seizing(1, what), second[what]);
        }
        Due.is("seizing(0, -1)", x.seizing(0, -1), -2);
        Due.is("seizing(2, 0)", x.seizing(2, 0), -2);
        Due.is("seizing(-1, 0)", x.seizing(-1, 0), -2);
    }

    private static void writ() {
        InquestHall x = hall();
        x.reign(4000);
        Due.law(x, 0, "writ 1000;");
        Due.law(x, 1, "writ 5;");
        x.dies(0, 3999);
        x.dies(1, 4000);
        Due.is("later than 1000", x.seize(0, 0, 1, -1, 0), 0);
        Due.is("VOID at once", x.seizing(0, 5), 5000);
        Due.is("no hanging on it", x.seize(0, 0, 1, 0, -1), -1);
        Due.is("no traverse of it", x.traverse(0), -1);
        Due.law(x, 0, "writ 1001;");
        Due.is("just in time", x.seize(0, 0, 1, -1, 0), 1);
        Due.is("not VOID", x.seizing(1, 5), -1);
        Due.is("by the law of that DAY", x.seize(0, 0, 1, -1, 1), 2);
        Due.is("VOID", x.seizing(2, 5), 5000);
        Due.is("not as one at a death", x.seize(0, 0, 1, -1, -1), 3);
        Due.is("not VOID", x.seizing(3, 5), -1);
    }

    private static void traverse() {
        InquestHall x = hall();
        Due.law(x, 0, "traverse 10;");
        x.seize(0, 0, 1, -1, -1);
        x.seize(0, 1, 2, 0, -1);
        x.seize(1, 0, 3, -1, -1);
        x.seize(1, 1, 4, 1, -1);
        x.seize(1, 1, 4, 1, -1);
        x.days(10);
        x.seize(1, 1, 4, 2, -1);
        Due.is("traverse(3)", x.traverse(3), 1);
        Due.is("VOID already", x.traverse(3), -1);
        Due.is("0, 1, 4", x.traverse(0), 3);
        int[] since = {5010, 5010, -1, 5010, 5010, -1};
        for (int e = 0; e < since.length; e++) {
            Due.is("seizing(" + e + ", 5)", x.seizing(e, 5), since[e]);
        }
        x.days(1);
        Due.is("too late", x.traverse(2), -1);
        Due.is("nothing was done", x.seizing(2, 5), -1);
        Due.is("in time", x.traverse(5), 1);
        Due.is("seizing(5, 5)", x.seizing(5, 5), 5011);
        Due.is("traverse(6)", x.traverse(6), -1);
    }

    private static void lawOfTheTelling() {
        InquestHall x = hall();
        x.reign(5001);
        Due.law(x, 0, "traverse 3;");
        Due.law(x, 1, "traverse 0;");
        x.seize(0, 0, 1, -1, -1);
        x.days(3);
        x.seize(0, 0, 1, -1, -1);
        Due.is("by the law of its telling", x.traverse(0), 1);
        Due.is("on the same DAY", x.traverse(1), 1);
        x.seize(0, 0, 1, -1, -1);
        x.days(1);
        Due.is("too late", x.traverse(2), -1);
    }

    private static void asKnown() {
        InquestHall x = hall();
        Due.is("nobody", x.holder(0, 0, 0), -2);
        x.seize(0, 0, 100, -1, -1);
        x.seize(0, 1, 200, -1, -1);
        x.days(10);
        x.seize(0, -1, 200, -1, -1);
        x.seize(0, 0, 150, -1, -1);
        x.days(10);
        Due.is("ahead of all", x.holder(0, 99, 5020), -2);
        Due.is("from that DAY on", x.holder(0, 100, 5020), 0);
        Due.is("as known earlier", x.holder(0, 200, 5009), 1);
        Due.is("as known then", x.holder(0, 200, 5010), -1);
        Due.is("as known ahead", x.holder(0, 200, 4999), -2);
        Due.is("the greatest DAY", x.holder(0, 29999, 5020), -1);
        Due.is("another land", x.holder(1, 29999, 5020), -2);
        Due.is("traverse", x.traverse(2), 1);
        Due.is("VOID now", x.holder(0, 200, 5020), 1);
        Due.is("not VOID then", x.holder(0, 200, 5019), -1);
        Due.is("known above NOW", x.holder(0, 200, 5021), -3);
        Due.is("known below 0", x.holder(0, 200, -1), -3);
        Due.is("day above", x.holder(0, 30000, 5020), -3);
        Due.is("day below", x.holder(0, -1, 5020), -3);
        Due.is("land 2", x.holder(2, 0, 0), -3);
        Due.is("land -1", x.holder(-1, 0, 0), -3);
    }

    private static void limit() {
        InquestHall x = hall();
        for (int e = 0; e < 100; e++) {
            Due.is("seize " + e, x.seize(0, 0, e, e - 1, -1), e);
        }
        Due.is("the 101st", x.seize(0, 0, 1, -1, -1), -1);
        Due.is("holder", x.holder(0, 99, 5000), 0);
        Due.is("all from 1 on", x.traverse(1), 99);
        Due.is("the first stands", x.seizing(0, 5), -1);
    }
}
