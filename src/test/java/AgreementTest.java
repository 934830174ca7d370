import java.math.BigInteger;
import java.util.Arrays;
import java.util.Random;

/** What answers must have to do with one another, whatever was told: drawn from fixed seeds. */
public final class AgreementTest {
    private static final int RUNS = 400;
    private static final int NOW = 9000;
    private static final int FAMILY = 12;

    private final Random random;
    private final String run;
    private final InquestHall hall = Due.hallOn(NOW);

    private AgreementTest(int seed) {
        random = new Random(seed);
        run = "seed " + seed + ": ";
    }

    public static void main(String[] args) {
        for (int seed = 0; seed < RUNS; seed++) {
            new AgreementTest(seed).shares(seed % 2 == 0);
            new AgreementTest(seed).wards();
            new AgreementTest(seed).dower();
            new AgreementTest(seed).proof();
            new AgreementTest(seed).juries();
        }
        Due.end();
    }

    private int up(int n) {
        return random.nextInt(n);
    }

    private int parent(int sex, int[] sexes, int below) {
        int found = up(below + 2) - 2;
        return found >= 0 && sexes[found] == sex ? found : -1;
    }

    /** A family, whose births are known to the day, or in spans that may lie one over the other. */
    private void family(boolean known) {
        int[] sexes = new int[FAMILY];
        for (int p = 0; p < FAMILY; p++) {
            sexes[p] = up(5) < 3 ? 0 : 1;
            int low = 400 * p + up(100);
            int father = p == 0 ? -1 : parent(0, sexes, p);
            int mother = p == 0 ? -1 : parent(1, sexes, p);
            Due.is(run + "person", hall.person(sexes[p], father, mother, low, known ? low : low + up(1500)), p);
        }
        for (int p = 0; p < FAMILY; p++) {
            if (up(2) == 0) {
                hall.dies(p, Math.min(NOW, hall.of(p, 3) + up(6000)));
            }
        }
        String[] customs = {"eldest", "youngest", "all"};
        Due.law(hall, 0, "heirs " + customs[up(3)] + ";ward knight until " + up(41) + " maid " + up(41) + " to kin;relief worth;");
        hall.land(0, 0, -1);
        hall.acre(0, 0, 1 + up(99), 0);
    }

    private void shares(boolean known) {
        family(known);
        int asked = 0;
        for (int p = 0; p < FAMILY && asked < 3; p++) {
            if (hall.of(p, 5) != -1) {
                asked++;
                sharesOf(p, known);
            }
        }
    }

    private BigInteger share(int p, int q, int what) {
        return BigInteger.valueOf(hall.share(p, 0, q, what));
    }

    private void sharesOf(int p, boolean known) {
        BigInteger above = BigInteger.ZERO;
        BigInteger below = BigInteger.ONE;
        int with = 0;
        for (int q = 0; q < FAMILY; q++) {
            BigInteger[] six = new BigInteger[6];
            for (int what = 0; what < 6; what++) {
                six[what] = share(p, q, what);
            }
            String call = run + "share(" + p + ", 0, " + q + "): ";
            for (int what = 0; what < 6; what += 2) {
                Due.is(call + "common part", six[what].gcd(six[what + 1]).longValue(), 1);
            }
            Due.yes(call + "LEAST at most SHARE", six[2].multiply(six[1]).compareTo(six[0].multiply(six[3])) <= 0);
            Due.yes(call + "SHARE at most MOST", six[0].multiply(six[5]).compareTo(six[4].multiply(six[1])) <= 0);
            Due.yes(call + "MOST at most the whole", six[4].compareTo(six[5]) <= 0);
            if (known) {
                Due.yes(call + "sure", six[2].equals(six[4]) && six[3].equals(six[5]));
            }
            if (six[0].signum() > 0) {
                with++;
                boolean alive = hall.of(q, 3) <= hall.of(p, 5) && (hall.of(q, 5) == -1 || hall.of(q, 5) > hall.of(p, 5));
                Due.yes(call + "ALIVE", alive);
                above = above.multiply(six[1]).add(six[0].multiply(below));
                below = below.multiply(six[1]);
            }
        }
        Due.is(run + "heirs(" + p + ", 0)", hall.heirs(p, 0), with);
        Due.yes(run + "all shares are the whole", with == 0 ? above.signum() == 0 : above.equals(below));
    }

    private void wards() {
        family(false);
        int asked = 0;
        for (int p = 0; p < FAMILY && asked < 3; p++) {
            if (hall.heirs(p, 0) > 0) {
                asked++;
                wardsOf(p);
            }
        }
    }

    private void wardsOf(int p) {
        int day = hall.of(p, 5);
        int worth = hall.landOf(0, 3);
        for (int q = 0; q < FAMILY; q++) {
            String call = run + "ward(" + p + ", 0, " + q + "): ";
            long minor = hall.ward(p, 0, q, 0);
            boolean heir = hall.share(p, 0, q, 0) > 0;
            Due.is(call + "an HEIR", minor == -2 ? 0 : 1, heir ? 1 : 0);
            Due.is(call + "relief", hall.relief(p, 0, q), minor == 0 ? worth : -1);
            if (minor == 1) {
                long low = hall.ward(p, 0, q, 1);
                Due.yes(call + "ends behind the death", low > day);
                Due.is(call + "as long as the span", hall.ward(p, 0, q, 2) - low, hall.of(q, 4) - hall.of(q, 3));
                long profit = worth * hall.share(p, 0, q, 0) * (low - day) / (360 * hall.share(p, 0, q, 1));
                Due.is(call + "PROFIT", hall.ward(p, 0, q, 4), profit);
            } else {
                Due.is(call + "no end", hall.ward(p, 0, q, 1), -2);
            }
        }
    }

    private void dower() {
        hall.person(0, -1, -1, 0, 0);
        hall.person(1, -1, -1, 0, 0);
        hall.marry(0, 1);
        hall.dies(0, 9);
        hall.land(0, 0, -1);
        int below = 1 + up(9);
        Due.law(hall, 0, "dower " + up(below + 1) + " of " + below + ";");
        int most = up(2) == 0 ? 100 : 5;
        int[] worth = new int[6];
        int[] place = new int[6];
        for (int a = 0; a < 6; a++) {
            worth[a] = up(3) == 0 ? 0 : up(most);
            place[a] = up(most);
            hall.acre(0, a, worth[a], place[a]);
        }
        int due = hall.dower(0, 0, 0);
        int set = hall.dower(0, 0, 1);
        int[] told = laid(worth, place, set);
        Due.is(run + "dower WORTH", hall.dower(0, 0, 2), told[0]);
        Due.is(run + "dower spread", hall.dower(0, 0, 3), told[1]);
        Due.yes(run + "dower is DUE", told[0] >= due);
        for (int other = 0; other < 64; other++) {
            int[] its = laid(worth, place, other);
            boolean like = its[0] == told[0] && its[1] == told[1];
            boolean better = its[0] < told[0] || (its[0] == told[0] && its[1] < told[1]) || (like && other < set);
            Due.no(run + "a better set: " + other, its[0] >= due && better);
        }
    }

    private static int[] laid(int[] worths, int[] places, int set) {
        int worth = 0;
        int least = 100;
        int greatest = -1;
        for (int a = 0; a < 6; a++) {
            if ((set >> a & 1) == 1 && worths[a] > 0) {
                worth += worths[a];
                least = Math.min(least, places[a]);
                greatest = Math.max(greatest, places[a]);
            }
        }
        return new int[] {worth, Math.max(0, greatest - least)};
    }

    private void proof() {
        hall.person(0, -1, -1, 0, 0);
        hall.event(0, up(2) == 0 ? up(30000) : 29999 * up(2));
        hall.event(1, up(30000));
        String[] forms = {"before %1$d;", "after %1$d;", "%2$d days before %1$d;", "%2$d days after %1$d;", "%3$d years at %1$d off %2$d;"};
        StringBuilder text = new StringBuilder();
        for (int m = 1 + up(24); m > 0; m--) {
            text.append(String.format(forms[up(5)], up(2), up(3) == 0 ? up(9) : up(9999), up(40)));
        }
        int came = Due.memories(hall, 0, text.toString());
        Due.is(run + "memories", came, hall.of(0, 7));
        int first = hall.proof(0, 0);
        int last = hall.proof(0, 1);
        Due.yes(run + "DAYS", 0 <= first && first <= last && last <= 29999);
        Due.is(run + "agreeing and DOUBTED", hall.proof(0, 2) + Integer.bitCount(hall.proof(0, 4)), came);
        boolean sure = hall.proof(0, 3) == 1;
        Due.is(run + "proved", hall.proved(0) ? 1 : 0, sure && last <= NOW ? 1 : 0);
        Due.is(run + "BORN", hall.of(0, 3), sure && last <= NOW ? first : 0);
        Due.is(run + "BORN", hall.of(0, 4), sure && last <= NOW ? last : 0);
    }

    private void juries() {
        int lands = 2 + up(11);
        for (int l = 0; l < lands; l++) {
            hall.land(0, 0, -1);
        }
        for (int n = up(40); n > 0; n--) {
            hall.find(up(10), up(lands), up(lands + 1) - 1);
        }
        int set = hall.quarrel(1);
        Due.is(run + "how many", hall.quarrel(2), Integer.bitCount(set));
        Due.is(run + "QUARREL", hall.quarrel(0), set == 0 ? 0 : 1);
        int[] before = chains(lands);
        for (int j = 0; j < 10; j++) {
            for (int l = 0; l < lands && (set >> j & 1) == 1; l++) {
                hall.unsay(j, l);
            }
        }
        Due.is(run + "the rest's QUARREL", hall.quarrel(0), 0);
        Due.yes(run + "the rest's CHAINS", Arrays.equals(before, chains(lands)));
    }

    private int[] chains(int lands) {
        int[] all = new int[lands * 4];
        for (int l = 0; l < lands; l++) {
            for (int i = 0; i < 4; i++) {
                all[4 * l + i] = hall.chain(l, i);
                Due.yes(run + "chain", i == 0 || all[4 * l + i - 1] != -1 || all[4 * l + i] == -1);
            }
            Due.is(run + "the CHAIN's end", hall.chain(l, lands - 1), -1);
        }
        return all;
    }
}
