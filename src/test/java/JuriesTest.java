/** Promises 31 to 34: find, unsay, quarrel, chain. */
public final class JuriesTest {
    public static void main(String[] args) {
        refused();
        unlike();
        rings();
        fewest();
        chains();
        Due.end();
    }

    private static InquestHall hall(int lands) {
        InquestHall x = new InquestHall();
        for (int l = 0; l < lands; l++) {
            x.land(0, 0, -1);
        }
        return x;
    }

    private static void weighed(String of, InquestHall x, int set) {
        Due.is(of + ": quarrel(0)", x.quarrel(0), set == 0 ? 0 : 1);
        Due.is(of + ": quarrel(1)", x.quarrel(1), set);
        Due.is(of + ": quarrel(2)", x.quarrel(2), Integer.bitCount(set));
    }

    private static void refused() {
        InquestHall x = hall(2);
        Due.no("jury 10", x.find(10, 0, 1));
        Due.no("jury -1", x.find(-1, 0, 1));
        Due.no("land 2", x.find(0, 2, 1));
        Due.no("land -1", x.find(0, -1, 1));
        Due.no("of land 2", x.find(0, 0, 2));
        Due.no("of -2", x.find(0, 0, -2));
        Due.no("of itself", x.find(0, 0, 0));
        Due.no("nothing was said", x.unsay(0, 0));
        Due.no("unsay(10, 0)", x.unsay(10, 0));
        Due.no("unsay(-1, 0)", x.unsay(-1, 0));
        Due.no("unsay(0, 2)", x.unsay(0, 2));
        Due.no("unsay(0, -1)", x.unsay(0, -1));
        weighed("at first", x, 0);
        Due.is("quarrel(3)", x.quarrel(3), -1);
        Due.is("quarrel(-1)", x.quarrel(-1), -1);
        Due.yes("jury 9", x.find(9, 0, 1));
        Due.yes("unsay", x.unsay(9, 0));
        Due.no("unsay again", x.unsay(9, 0));
        Due.yes("of the king", x.find(9, 0, -1));
        Due.yes("unsay that", x.unsay(9, 0));
    }

    private static void unlike() {
        InquestHall x = hall(3);
        x.find(4, 0, 1);
        x.find(7, 0, 1);
        weighed("like", x, 0);
        x.find(7, 0, -1);
        weighed("the king or a land", x, 1 << 4);
        x.find(8, 0, -1);
        weighed("two against one", x, 1 << 4);
        x.find(2, 0, 1);
        weighed("two against two", x, 1 << 2 | 1 << 4);
        x.find(2, 0, -1);
        weighed("the latest word counts", x, 1 << 4);
        x.unsay(4, 0);
        weighed("unsaid", x, 0);
    }

    private static void rings() {
        InquestHall x = hall(12);
        x.find(3, 0, 1);
        x.find(3, 1, 2);
        weighed("a chain", x, 0);
        x.find(3, 2, 0);
        weighed("a ring of one jury's own", x, 1 << 3);
        x.find(3, 2, -1);
        x.find(5, 2, 3);
        x.find(3, 2, 3);
        x.find(5, 3, 0);
        weighed("a ring of two juries", x, 1 << 3);
        x.unsay(5, 3);
        for (int l = 0; l < 11; l++) {
            x.find(3, l, l + 1);
        }
        weighed("the longest chain", x, 0);
        x.find(5, 11, 0);
        weighed("the longest ring", x, 1 << 3);
        x.find(5, 2, -1);
        weighed("and a quarrel", x, 1 << 3);
    }

    private static void fewest() {
        InquestHall x = hall(4);
        // 0 against 1 and 2, 3 against 4: the fewest are 0 and 3
        x.find(1, 0, 1);
        x.find(2, 0, 1);
        x.find(0, 0, 2);
        x.find(3, 3, 1);
        x.find(4, 3, 2);
        weighed("two", x, 1 | 1 << 3);
        // all ten unlike: only the last one stays
        InquestHall y = hall(12);
        for (int j = 0; j < 10; j++) {
            y.find(j, 0, j + 1);
        }
        weighed("nine", y, 511);
        Due.is("by the last one", y.chain(0, 0), 10);
        y.find(9, 10, 0);
        weighed("its own ring", y, 1023 - 256);
        // each alone in a ring: all ten are doubted
        InquestHall z = hall(2);
        for (int j = 0; j < 10; j++) {
            z.find(j, 0, 1);
            z.find(j, 1, 0);
        }
        weighed("ten", z, 1023);
        Due.is("nothing is found", z.chain(0, 0), -1);
    }

    private static void chains() {
        InquestHall x = hall(5);
        Due.is("not found", x.chain(0, 0), -1);
        x.find(0, 0, 3);
        x.find(1, 3, 1);
        x.find(2, 1, -1);
        Due.is("chain(0, 0)", x.chain(0, 0), 3);
        Due.is("chain(0, 1)", x.chain(0, 1), 1);
        Due.is("chain(0, 2)", x.chain(0, 2), -1);
        Due.is("chain(0, 3)", x.chain(0, 3), -1);
        Due.is("chain(0, MAX)", x.chain(0, Integer.MAX_VALUE), -1);
        Due.is("chain(3, 0)", x.chain(3, 0), 1);
        Due.is("chain(1, 0)", x.chain(1, 0), -1);
        Due.is("chain(4, 0)", x.chain(4, 0), -1);
        Due.is("chain(5, 0)", x.chain(5, 0), -2);
        Due.is("chain(-1, 0)", x.chain(-1, 0), -2);
        Due.is("chain(0, -1)", x.chain(0, -1), -2);
        x.find(3, 3, 4);
        Due.is("by the rest", x.chain(0, 1), 4);
        x.find(4, 3, 1);
        Due.is("by the rest", x.chain(0, 1), 1);
    }
}
