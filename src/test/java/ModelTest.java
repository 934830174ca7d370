import java.nio.charset.StandardCharsets;
import java.util.Random;

/** Long runs of calls, drawn from fixed seeds, on InquestHall and on SlowHall: every answer must be the same. */
public final class ModelTest {
    private static final int RUNS = 500;
    /* An object is good for 512 calls; a text told with all that is asked of it takes 52 of them. */
    private static final int CALLS = 512 - 52;
    private static final String[] WORDS = ("worth acres shire service age heirs share eldest youngest all knight socage "
        + "serjeanty lord king kin ward dower writ traverse relief in until maid to of when or and not before after days "
        + "years at off ; ; + - * / ( ) < = > 0 1 3 7 40 41 100000 soon . x").split(" ");

    private final Random random;
    private final int seed;
    private final InquestHall hall = new InquestHall();
    private final SlowHall slow = new SlowHall();
    private int now = 0;
    private int calls = 0;
    private int persons = 0;
    private int lands = 0;
    private int told = 0;

    private ModelTest(int seed) {
        this.seed = seed;
        this.random = new Random(seed);
    }

    public static void main(String[] args) {
        int from = args.length > 0 ? Integer.parseInt(args[0]) : 0;
        int runs = args.length > 1 ? Integer.parseInt(args[1]) : RUNS;
        for (int seed = from; seed < from + runs; seed++) {
            new ModelTest(seed).go();
        }
        Due.end();
    }

    private void go() {
        begin();
        while (calls < CALLS) {
            call(random.nextInt(100));
        }
    }

    private void same(String call, long got, long want) {
        calls++;
        Due.is("seed " + seed + ", call " + calls + ": " + call, got, want);
    }

    private static int bit(boolean so) {
        return so ? 1 : 0;
    }

    private int up(int n) {
        return random.nextInt(n);
    }

    private boolean rarely() {
        return up(40) == 0;
    }

    private int wild() {
        int[] edges = {-3, -2, -1, 0, 1, 9, 10, 12, 16, 32, 100, 29999, 30000, Integer.MAX_VALUE, Integer.MIN_VALUE};
        return up(3) == 0 ? random.nextInt() : edges[up(edges.length)];
    }

    private int someone() {
        return rarely() ? wild() : up(Math.max(1, persons));
    }

    private int someoneOrNone() {
        return up(4) == 0 ? -1 : someone();
    }

    private int someLand() {
        return rarely() ? wild() : up(Math.max(1, lands));
    }

    private int someDay() {
        return rarely() ? wild() : up(now + 1);
    }

    private int what(int n) {
        return rarely() ? wild() : up(n);
    }

    private void begin() {
        days(5000 + up(5000));
        tape("ward knight until " + up(41) + oneOf("", " maid " + up(41)) + " to " + oneOf("lord", "kin") + ";ward socage until "
            + up(41) + " to kin;" + (up(3) == 0 ? "heirs all;" : "") + "traverse " + up(900) + ";" + lawLine() + ";");
        same("reads(0)", hall.reads(0), slow.reads(0));
        faults();
        int many = 4 + up(29);
        for (int p = 0; p < many; p++) {
            person(p);
        }
        int some = 1 + up(12);
        for (int l = 0; l < some; l++) {
            land();
        }
        for (int e = 0; e < 6; e++) {
            event(e, up(now));
        }
        days(1000 + up(3000));
        for (int n = 0; n < 6; n++) {
            marry(parent(0), parent(1));
        }
        int deaths = up(persons);
        for (int n = 0; n < deaths; n++) {
            dies();
        }
        if (up(2) == 0) {
            reign(5000 + up(5000));
            law(1);
        }
    }

    private void days(int n) {
        long want = slow.days(n);
        same("days(" + n + ")", hall.days(n), want);
        now = want < 0 ? now : (int) want;
    }

    private void person(int p) {
        int low = Math.min(now, p * 150 + up(400));
        int high = Math.min(now, low + (up(2) == 0 ? 0 : up(700)));
        int father = up(5) == 0 ? -1 : parent(0);
        int mother = up(3) == 0 ? -1 : parent(1);
        tellPerson(rarely() ? wild() : up(2), father, mother, rarely() ? wild() : low, rarely() ? wild() : high);
    }

    /** One of that SEX, mostly: of the latest few, or oftener of the first ones, so that kin marries kin. */
    private int parent(int sex) {
        int found = rarely() ? wild() : -1;
        for (int n = 0; n < 8 && found == -1 && persons > 0; n++) {
            int p = up(2) == 0 ? Math.max(0, persons - 1 - up(6)) : Math.min(up(persons), up(persons));
            found = slow.of(p, 0) == sex ? p : -1;
        }
        return found;
    }

    private void tellPerson(int sex, int father, int mother, int low, int high) {
        long want = slow.person(sex, father, mother, low, high);
        same("person(" + sex + ", " + father + ", " + mother + ", " + low + ", " + high + ")",
            hall.person(sex, father, mother, low, high), want);
        persons += want >= 0 ? 1 : 0;
    }

    private void land() {
        int shire = what(4);
        int service = what(3);
        int lord = up(2) == 0 ? -1 : someone();
        long want = slow.land(shire, service, lord);
        same("land(" + shire + ", " + service + ", " + lord + ")", hall.land(shire, service, lord), want);
        lands += want >= 0 ? 1 : 0;
        for (int a = 0; a < 4 && want >= 0; a++) {
            acre((int) want);
        }
    }

    private void acre(int l) {
        int a = what(6);
        int worth = rarely() ? wild() : up(4) == 0 ? up(3) : up(100);
        int place = rarely() ? wild() : up(100);
        same("acre(" + l + ", " + a + ", " + worth + ", " + place + ")", bit(hall.acre(l, a, worth, place)),
            slow.acre(l, a, worth, place));
    }

    private void event(int e, int day) {
        same("event(" + e + ", " + day + ")", bit(hall.event(e, day)), slow.event(e, day));
    }

    private void reign(int day) {
        same("reign(" + day + ")", hall.reign(day), slow.reign(day));
    }

    private void tape(String text) {
        byte[] bytes = text.getBytes(StandardCharsets.ISO_8859_1);
        int[] five = new int[5];
        for (int from = 0; from < bytes.length; from += 20) {
            for (int w = 0; w < 5; w++) {
                five[w] = 0;
                for (int b = 0; b < 4; b++) {
                    int at = from + 4 * w + b;
                    five[w] = five[w] << 8 | (at < bytes.length ? bytes[at] & 255 : up(256));
                }
            }
            same("feed(" + five[0] + ", ..)", hall.feed(five[0], five[1], five[2], five[3], five[4]), slow.feed(five));
        }
        int length = rarely() ? wild() : bytes.length;
        same("end(" + length + ")", bit(hall.end(length)), slow.end(length));
    }

    private void faults() {
        same("fault(0)", hall.fault(0), slow.fault(0));
        same("fault(1)", hall.fault(1), slow.fault(1));
        if (rarely()) {
            same("fault(2)", hall.fault(2), slow.fault(2));
        }
    }

    private String oneOf(String... all) {
        return all[up(all.length)];
    }

    private String number(int n) {
        return rarely() ? oneOf("100000", "99999", "0", "00", "41", "4", "10000") : String.valueOf(up(n));
    }

    private String sum(int depth) {
        StringBuilder text = new StringBuilder(product(depth));
        while (up(3) == 0) {
            text.append(oneOf("+", "-", " + ", "-\n")).append(product(depth));
        }
        return text.toString();
    }

    private String product(int depth) {
        StringBuilder text = new StringBuilder(unit(depth));
        while (up(3) == 0) {
            text.append(up(2) == 0 ? "*" + unit(depth) : "/" + (1 + up(30)));
        }
        return text.toString();
    }

    private String unit(int depth) {
        if (depth > 0 && up(3) == 0) {
            return "(" + sum(depth - 1) + ")";
        }
        return up(3) == 0 ? number(200) : oneOf("worth", "acres", "shire", "service", "age", "heirs", "share", "share", "age");
    }

    private String test(int depth) {
        StringBuilder text = new StringBuilder();
        while (up(4) == 0) {
            text.append("not ");
        }
        return text + sum(depth) + oneOf("<", "=", ">") + sum(depth);
    }

    private String condition(int depth) {
        StringBuilder text = new StringBuilder(test(depth));
        while (up(3) == 0) {
            text.append(oneOf(" and ", " or ")).append(test(depth));
        }
        return text.toString();
    }

    private String lawLine() {
        int depth = up(8) == 0 ? 9 : 2;
        switch (up(9)) {
            case 0:
                return "heirs " + oneOf("eldest", "youngest", "all") + oneOf("", " in " + number(4));
            case 1:
            case 2:
                return "ward " + oneOf("knight", "socage", "serjeanty") + " until " + number(41)
                    + oneOf("", " maid " + number(41)) + " to " + oneOf("lord", "king", "kin");
            case 3:
                return "dower " + number(4) + " of " + (3 + up(6));
            case 4:
                return "writ " + number(3000);
            case 5:
                return "traverse " + number(2000);
            case 6:
            case 7:
                return "relief " + sum(depth) + oneOf("", " when " + condition(depth));
            default:
                return up(3) == 0 ? "king when " + condition(depth) : "heirs " + oneOf("eldest", "youngest", "all");
        }
    }

    private String lawText() {
        if (up(12) == 0) {
            return words(up(30));
        }
        StringBuilder text = new StringBuilder();
        int lines = up(12) == 0 ? 28 + up(5) : up(9);
        for (int n = 0; n < lines; n++) {
            text.append(lines > 20 ? "writ " + up(20) : lawLine()).append(oneOf(";", ";", "; ", ";\n"));
        }
        return marred(text.toString());
    }

    private String words(int n) {
        StringBuilder text = new StringBuilder();
        for (int i = 0; i < n; i++) {
            text.append(oneOf(WORDS)).append(oneOf("", " "));
        }
        return text.toString();
    }

    /** Now and then a text with a slip in it. */
    private String marred(String text) {
        StringBuilder marred = new StringBuilder(text);
        if (up(4) == 0 && marred.length() > 0) {
            int at = up(marred.length());
            switch (up(4)) {
                case 0:
                    marred.deleteCharAt(at);
                    break;
                case 1:
                    marred.setCharAt(at, (char) up(256));
                    break;
                case 2:
                    marred.insert(at, " " + oneOf(WORDS) + " ");
                    break;
                default:
                    marred.setLength(at);
                    break;
            }
        }
        return marred.length() > 800 ? marred.substring(0, 800) : marred.toString();
    }

    private void law(int r) {
        tape(lawText());
        same("reads(" + r + ")", hall.reads(r), slow.reads(r));
        faults();
    }

    private String memoryText() {
        StringBuilder text = new StringBuilder();
        int many = up(20) == 0 ? 26 : 1 + up(4);
        for (int n = 0; n < many; n++) {
            String event = rarely() ? number(18) : String.valueOf(up(6));
            switch (up(6)) {
                case 0:
                    text.append("before ").append(event);
                    break;
                case 1:
                    text.append("after ").append(event);
                    break;
                case 2:
                    text.append(number(2000)).append(" days before ").append(event);
                    break;
                case 3:
                    text.append(number(2000)).append(" days after ").append(event);
                    break;
                default:
                    text.append(number(20)).append(" years at ").append(event).append(" off ").append(number(900));
                    break;
            }
            text.append(oneOf(";", ";", "; ", ";\n"));
        }
        return marred(text.toString());
    }

    private void memories() {
        int p = someone();
        tape(memoryText());
        same("memories(" + p + ")", hall.memories(p), slow.memories(p));
        faults();
        for (int what = 0; what < 5; what++) {
            same("proof(" + p + ", " + what + ")", hall.proof(p, what), slow.proof(p, what));
        }
    }

    private int someDead() {
        int p = someone();
        for (int n = 0; n < 5 && slow.of(p, 5) < 0; n++) {
            p = someone();
        }
        return p;
    }

    private void estate() {
        int p = someDead();
        int l = someLand();
        same("heirs(" + p + ", " + l + ")", hall.heirs(p, l), slow.heirs(p, l));
        int q = someone();
        int from = up(Math.max(1, persons));
        for (int n = 0; n < persons && up(50) != 0 && slow.share(p, l, q, 0) == 0; n++) {
            q = (from + n) % persons;
        }
        int what = what(6);
        same("share(" + p + ", " + l + ", " + q + ", " + what + ")", hall.share(p, l, q, what), slow.share(p, l, q, what));
        what = what(6);
        same("ward(" + p + ", " + l + ", " + q + ", " + what + ")", hall.ward(p, l, q, what), slow.ward(p, l, q, what));
        same("relief(" + p + ", " + l + ", " + q + ")", hall.relief(p, l, q), slow.relief(p, l, q));
    }

    private void dower() {
        int p = someDead();
        int l = someLand();
        if (up(2) == 0) {
            marry(p, parent(1));
        }
        int what = what(4);
        same("dower(" + p + ", " + l + ", " + what + ")", hall.dower(p, l, what), slow.dower(p, l, what));
    }

    private void marry(int p, int q) {
        same("marry(" + p + ", " + q + ")", bit(hall.marry(p, q)), slow.marry(p, q));
    }

    private void seize() {
        int l = someLand();
        int holder = someoneOrNone();
        int day = someDay();
        int hangs = up(2) == 0 ? -1 : rarely() ? wild() : up(Math.max(1, told));
        int death = up(2) == 0 ? -1 : someDead();
        long want = slow.seize(l, holder, day, hangs, death);
        same("seize(" + l + ", " + holder + ", " + day + ", " + hangs + ", " + death + ")",
            hall.seize(l, holder, day, hangs, death), want);
        told += want >= 0 ? 1 : 0;
    }

    private void seizing() {
        int e = rarely() ? wild() : up(Math.max(1, told));
        int what = what(6);
        same("seizing(" + e + ", " + what + ")", hall.seizing(e, what), slow.seizing(e, what));
        int l = someLand();
        int day = someDay();
        int known = rarely() ? wild() : Math.max(0, now - up(2) * up(500));
        same("holder(" + l + ", " + day + ", " + known + ")", hall.holder(l, day, known), slow.holder(l, day, known));
    }

    private void dies() {
        int p = someone();
        int day = rarely() ? wild() : Math.max(0, now - up(6000));
        same("dies(" + p + ", " + day + ")", bit(hall.dies(p, day)), slow.dies(p, day));
    }

    private void born() {
        int p = someone();
        int low = someDay();
        int high = rarely() ? wild() : Math.min(now, low + up(1000));
        same("born(" + p + ", " + low + ", " + high + ")", bit(hall.born(p, low, high)), slow.born(p, low, high));
    }

    private void juries() {
        int j = rarely() ? wild() : up(10);
        int l = someLand();
        int m = up(4) == 0 ? -1 : someLand();
        same("find(" + j + ", " + l + ", " + m + ")", bit(hall.find(j, l, m)), slow.find(j, l, m));
        int what = what(3);
        same("quarrel(" + what + ")", hall.quarrel(what), slow.quarrel(what));
        int i = rarely() ? wild() : up(4);
        same("chain(" + l + ", " + i + ")", hall.chain(l, i), slow.chain(l, i));
    }

    private void unsay() {
        int j = rarely() ? wild() : up(10);
        int l = someLand();
        same("unsay(" + j + ", " + l + ")", bit(hall.unsay(j, l)), slow.unsay(j, l));
    }

    private void look() {
        int p = someone();
        int what = what(8);
        same("of(" + p + ", " + what + ")", hall.of(p, what), slow.of(p, what));
        int l = someLand();
        what = what(26);
        same("landOf(" + l + ", " + what + ")", hall.landOf(l, what), slow.landOf(l, what));
        int day = rarely() ? wild() : up(30000);
        what = what(20);
        same("lawOn(" + day + ", " + what + ")", hall.lawOn(day, what), slow.lawOn(day, what));
    }

    private void call(int n) {
        if (n < 35) {
            estate();
        } else if (n < 45) {
            dies();
        } else if (n < 48) {
            dower();
        } else if (n < 55) {
            seize();
        } else if (n < 60) {
            seizing();
        } else if (n < 66) {
            juries();
        } else if (n < 70) {
            unsay();
        } else if (n < 74) {
            memories();
        } else if (n < 80) {
            look();
        } else {
            rare(n);
        }
    }

    private void rare(int n) {
        int p = someone();
        int q = someoneOrNone();
        int e = rarely() ? wild() : up(Math.max(1, told));
        if (n < 83) {
            marry(p, q);
        } else if (n < 86) {
            born();
        } else if (n < 88) {
            law(rarely() ? wild() : up(3));
        } else if (n < 90) {
            acre(someLand());
        } else if (n < 91) {
            land();
        } else if (n < 92) {
            person(up(50));
        } else if (n < 94) {
            days(rarely() ? wild() : 1 + up(300));
        } else if (n < 95) {
            reign(rarely() ? wild() : up(30000));
        } else if (n < 96) {
            event(rarely() ? wild() : up(8), rarely() ? wild() : up(now + 1));
        } else if (n < 97) {
            same("forget(" + p + ")", bit(hall.forget(p)), slow.forget(p));
        } else if (n < 98) {
            same("proved(" + p + ")", bit(hall.proved(p)), slow.proved(p));
        } else {
            same("traverse(" + e + ")", hall.traverse(e), slow.traverse(e));
        }
    }
}
