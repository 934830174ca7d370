import java.math.BigInteger;
import java.util.ArrayList;
import java.util.Arrays;
import java.util.List;
import java.util.Map;
import java.util.TreeMap;

/**
 * The document written down a second time, as plainly as can be and with all of the Java library: recursion over
 * LINES with big fractions, a parser that goes down the grammar and keeps a tree, a PROOF that looks at every DAY.
 * ModelTest lays long runs of calls on it and on InquestHall. Its calls answer longs (a boolean 1 or 0).
 */
final class SlowHall {
    private static final int NONE = -1;

    private static final class Person {
        int sex, father, mother, low, high, died = NONE, wife = NONE;
        final List<int[]> memories = new ArrayList<>();
    }

    private static final class Land {
        int shire, service, lord;
        final int[] worth = new int[6];
        final int[] place = new int[6];
    }

    private static final class Seizing {
        int land, holder, from, told, hangs, since = NONE;
    }

    private interface Tree {
        int value(Map<String, Integer> asked);
    }

    private static final class Law {
        int[] custom = new int[4];
        int[][] ward = new int[3][3];
        int dowerPart = 1, dowerOf = 3, writ = 9999, traverse = 9999;
        List<Tree[]> reliefs = new ArrayList<>();
        List<Tree> kings = new ArrayList<>();
        int lines;
    }

    private static final class Fault extends RuntimeException {
        private static final long serialVersionUID = 1L;
        final int what;
        final int place;

        Fault(int what, int place) {
            this.what = what;
            this.place = place;
        }
    }

    private final List<Person> people = new ArrayList<>();
    private final List<Land> lands = new ArrayList<>();
    private final List<Seizing> seizings = new ArrayList<>();
    private final List<Integer> reignFrom = new ArrayList<>(List.of(0));
    private final List<Law> laws = new ArrayList<>(List.of(new Law()));
    private final Integer[] events = new Integer[16];
    private final Integer[][] words = new Integer[10][12];
    private String tape = "";
    private int fault = 0;
    private int place = NONE;
    private int now = 0;

    private boolean isPerson(int p) {
        return p >= 0 && p < people.size();
    }

    private boolean isLand(int l) {
        return l >= 0 && l < lands.size();
    }

    private boolean alive(int p, int day) {
        if (!isPerson(p)) {
            return false;
        }
        Person x = people.get(p);
        return x.low <= day && !(x.died != NONE && x.died <= day);
    }

    private Law lawAt(int day) {
        return laws.get(reignAt(day));
    }

    private int reignAt(int day) {
        int r = reignFrom.size() - 1;
        while (reignFrom.get(r) > day) {
            r--;
        }
        return r;
    }

    long days(int n) {
        if (n < 1 || n > 9999 || now + n > 29999) {
            return NONE;
        }
        return now += n;
    }

    long person(int sex, int father, int mother, int low, int high) {
        boolean can = (sex == 0 || sex == 1) && 0 <= low && low <= high && high <= now && people.size() < 32;
        can &= father == NONE || isPerson(father) && people.get(father).sex == 0;
        can &= mother == NONE || isPerson(mother) && people.get(mother).sex == 1;
        if (!can) {
            return NONE;
        }
        Person x = new Person();
        x.sex = sex;
        x.father = father;
        x.mother = mother;
        x.low = low;
        x.high = high;
        people.add(x);
        return people.size() - 1;
    }

    long dies(int p, int day) {
        if (!isPerson(p) || people.get(p).died != NONE || day < people.get(p).low || day > now) {
            return 0;
        }
        people.get(p).died = day;
        return 1;
    }

    long marry(int p, int q) {
        if (!isPerson(p) || people.get(p).sex != 0 || q != NONE && (!isPerson(q) || people.get(q).sex != 1)) {
            return 0;
        }
        people.get(p).wife = q;
        return 1;
    }

    long of(int p, int what) {
        if (!isPerson(p) || what < 0 || what > 7) {
            return NONE;
        }
        Person x = people.get(p);
        return new int[] {x.sex, x.father, x.mother, x.low, x.high, x.died, x.wife, x.memories.size()}[what];
    }

    long born(int p, int low, int high) {
        if (!isPerson(p) || low < 0 || low > high || high > now) {
            return 0;
        }
        Person x = people.get(p);
        if (x.died != NONE && x.died < low) {
            return 0;
        }
        x.low = low;
        x.high = high;
        return 1;
    }

    long land(int shire, int service, int lord) {
        boolean can = shire >= 0 && shire <= 3 && service >= 0 && service <= 2 && (lord == NONE || isPerson(lord));
        if (!can || lands.size() == 12) {
            return NONE;
        }
        Land x = new Land();
        x.shire = shire;
        x.service = service;
        x.lord = lord;
        lands.add(x);
        return lands.size() - 1;
    }

    long acre(int l, int a, int worth, int place) {
        if (!isLand(l) || a < 0 || a > 5 || worth < 0 || worth > 99 || place < 0 || place > 99) {
            return 0;
        }
        lands.get(l).worth[a] = worth;
        lands.get(l).place[a] = place;
        return 1;
    }

    long landOf(int l, int what) {
        if (!isLand(l)) {
            return NONE;
        }
        Land x = lands.get(l);
        if (what >= 10 && what <= 15) {
            return x.worth[what - 10];
        }
        if (what >= 20 && what <= 25) {
            return x.place[what - 20];
        }
        return what == 0 ? x.shire : what == 1 ? x.service : what == 2 ? x.lord : what == 3 ? worth(l) : NONE;
    }

    private int worth(int l) {
        return Arrays.stream(lands.get(l).worth).sum();
    }

    long reign(int day) {
        if (reignFrom.size() == 4 || day <= reignFrom.get(reignFrom.size() - 1) || day > 29999) {
            return NONE;
        }
        reignFrom.add(day);
        laws.add(new Law());
        return reignFrom.size() - 1;
    }

    long feed(int... five) {
        if (tape.length() + 20 > 800) {
            return NONE;
        }
        for (int four : five) {
            for (int shift = 24; shift >= 0; shift -= 8) {
                tape += (char) (four >>> shift & 255);
            }
        }
        return tape.length();
    }

    long end(int n) {
        if (n < 0 || n > tape.length()) {
            return 0;
        }
        tape = tape.substring(0, n);
        return 1;
    }

    long fault(int what) {
        return what == 0 ? fault : what == 1 ? place : NONE;
    }

    long lawOn(int day, int what) {
        if (day < 0 || day > 29999) {
            return NONE;
        }
        Law x = lawAt(day);
        if (what >= 5 && what <= 8) {
            return x.custom[what - 5];
        }
        if (what >= 10 && what <= 18) {
            return x.ward[(what - 10) / 3][(what - 10) % 3];
        }
        switch (what) {
            case 0: return reignAt(day);
            case 1: return x.dowerPart;
            case 2: return x.dowerOf;
            case 3: return x.writ;
            case 4: return x.traverse;
            default: return NONE;
        }
    }

    // ---- texts

    /** Goes along a text; the next TOKEN is looked for only when it is asked for. */
    private final class Reader {
        final String text = tape;
        int at = 0;
        int open = 0;

        Reader() {
            skip();
        }

        void skip() {
            while (at < text.length() && (text.charAt(at) == ' ' || text.charAt(at) == '\n')) {
                at++;
            }
        }

        String next() {
            int to = at;
            while (to < text.length() && String.valueOf(text.charAt(to)).matches("[A-Za-z]")) {
                to++;
            }
            if (to == at) {
                while (to < text.length() && String.valueOf(text.charAt(to)).matches("[0-9]")) {
                    to++;
                }
            }
            if (to == at && at < text.length()) {
                to++;
            }
            return text.substring(at, to);
        }

        boolean ends() {
            return at == text.length();
        }

        boolean is(String token) {
            return next().equals(token);
        }

        boolean isNumber() {
            return next().matches("[0-9]{1,5}");
        }

        void pass() {
            at += next().length();
            skip();
        }

        boolean may(String token) {
            boolean so = is(token);
            if (so) {
                pass();
            }
            return so;
        }

        void must(String token) {
            if (!may(token)) {
                throw new Fault(1, at);
            }
        }

        int number() {
            if (!isNumber()) {
                throw new Fault(1, at);
            }
            int n = Integer.parseInt(next());
            pass();
            return n;
        }

        int number(int most) {
            int from = at;
            int n = number();
            if (n > most) {
                throw new Fault(2, from);
            }
            return n;
        }

        int oneOf(String... tokens) {
            for (int i = 0; i < tokens.length; i++) {
                if (may(tokens[i])) {
                    return i;
                }
            }
            throw new Fault(1, at);
        }

        void opens() {
            if (open == 8) {
                throw new Fault(3, at);
            }
            open++;
            pass();
        }

        Tree sum() {
            Tree left = product();
            while (is("+") || is("-")) {
                boolean plus = is("+");
                pass();
                Tree a = left;
                Tree b = product();
                left = asked -> plus ? a.value(asked) + b.value(asked) : a.value(asked) - b.value(asked);
            }
            return left;
        }

        Tree product() {
            Tree left = unit();
            while (is("*") || is("/")) {
                boolean times = is("*");
                pass();
                Tree a = left;
                if (times) {
                    Tree b = unit();
                    left = asked -> a.value(asked) * b.value(asked);
                } else {
                    int from = at;
                    int n = number();
                    if (n == 0) {
                        throw new Fault(2, from);
                    }
                    left = asked -> a.value(asked) / n;
                }
            }
            return left;
        }

        Tree unit() {
            if (isNumber()) {
                int n = number();
                return asked -> n;
            }
            if (is("(")) {
                opens();
                Tree inside = sum();
                must(")");
                open--;
                return inside;
            }
            if (!List.of("worth", "acres", "shire", "service", "age", "heirs", "share").contains(next())) {
                throw new Fault(1, at);
            }
            String name = next();
            pass();
            return asked -> asked.get(name);
        }

        Tree either() {
            Tree left = both();
            while (may("or")) {
                Tree a = left;
                Tree b = both();
                left = asked -> a.value(asked) != 0 || b.value(asked) != 0 ? 1 : 0;
            }
            return left;
        }

        Tree both() {
            Tree left = test();
            while (may("and")) {
                Tree a = left;
                Tree b = test();
                left = asked -> a.value(asked) != 0 && b.value(asked) != 0 ? 1 : 0;
            }
            return left;
        }

        Tree test() {
            if (is("not")) {
                opens();
                Tree inside = test();
                open--;
                return asked -> inside.value(asked) == 0 ? 1 : 0;
            }
            Tree a = sum();
            int sign = oneOf("<", "=", ">");
            Tree b = sum();
            return asked -> Integer.compare(a.value(asked), b.value(asked)) == sign - 1 ? 1 : 0;
        }

        Law law() {
            Law x = new Law();
            while (!ends()) {
                String word = next();
                if (!List.of("heirs", "ward", "dower", "writ", "traverse", "relief", "king").contains(word)) {
                    throw new Fault(1, at);
                }
                if (x.lines == 30) {
                    throw new Fault(3, at);
                }
                pass();
                line(x, word);
                must(";");
                x.lines++;
            }
            return x;
        }

        void line(Law x, String word) {
            switch (word) {
                case "heirs": {
                    int custom = oneOf("eldest", "youngest", "all");
                    if (may("in")) {
                        x.custom[number(3)] = custom;
                    } else {
                        Arrays.fill(x.custom, custom);
                    }
                    break;
                }
                case "ward": {
                    int[] ward = x.ward[oneOf("knight", "socage", "serjeanty")];
                    must("until");
                    ward[0] = number(40);
                    ward[1] = may("maid") ? number(40) : ward[0];
                    must("to");
                    ward[2] = oneOf("lord", "king", "kin");
                    break;
                }
                case "dower": {
                    x.dowerPart = number();
                    must("of");
                    int from = at;
                    x.dowerOf = number();
                    if (x.dowerOf == 0 || x.dowerOf < x.dowerPart) {
                        throw new Fault(2, from);
                    }
                    break;
                }
                case "writ":
                    x.writ = number(9999);
                    break;
                case "traverse":
                    x.traverse = number(9999);
                    break;
                case "relief": {
                    Tree e = sum();
                    Tree b = may("when") ? either() : asked -> 1;
                    x.reliefs.add(new Tree[] {e, b});
                    break;
                }
                default:
                    must("when");
                    x.kings.add(either());
                    break;
            }
        }

        int event() {
            int from = at;
            int e = number();
            if (e > 15 || events[e] == null) {
                throw new Fault(2, from);
            }
            return e;
        }

        /** Kind (0 before, 1 after, 2 days before, 3 days after, 4 years), event, number, off. */
        int[] memory() {
            if (!isNumber()) {
                int kind = oneOf("before", "after");
                return new int[] {kind, event(), 0, 0};
            }
            int n = number();
            if (oneOf("days", "years") == 0) {
                int kind = 2 + oneOf("before", "after");
                return new int[] {kind, event(), n, 0};
            }
            must("at");
            int e = event();
            must("off");
            return new int[] {4, e, n, number()};
        }

        List<int[]> memories(int had) {
            List<int[]> came = new ArrayList<>();
            do {
                if (!isNumber() && !is("before") && !is("after")) {
                    throw new Fault(1, at);
                }
                if (had + came.size() == 24) {
                    throw new Fault(3, at);
                }
                came.add(memory());
                must(";");
            } while (!ends());
            return came;
        }
    }

    long reads(int r) {
        if (r < 0 || r >= laws.size()) {
            tape = "";
            return NONE;
        }
        try {
            Law x = new Reader().law();
            laws.set(r, x);
            fault = 0;
            place = NONE;
            return x.lines;
        } catch (Fault f) {
            fault = f.what;
            place = f.place;
            return NONE;
        } finally {
            tape = "";
        }
    }

    long memories(int p) {
        if (!isPerson(p)) {
            tape = "";
            return NONE;
        }
        try {
            List<int[]> came = new Reader().memories(people.get(p).memories.size());
            people.get(p).memories.addAll(came);
            fault = 0;
            place = NONE;
            return came.size();
        } catch (Fault f) {
            fault = f.what;
            place = f.place;
            return NONE;
        } finally {
            tape = "";
        }
    }

    // ---- heirs

    private static final class Part {
        static final Part ZERO = new Part(BigInteger.ZERO, BigInteger.ONE);
        static final Part ONE = new Part(BigInteger.ONE, BigInteger.ONE);
        final BigInteger above;
        final BigInteger below;

        Part(BigInteger above, BigInteger below) {
            BigInteger common = above.gcd(below);
            this.above = above.divide(common);
            this.below = below.divide(common);
        }

        Part plus(Part o) {
            return new Part(above.multiply(o.below).add(o.above.multiply(below)), below.multiply(o.below));
        }

        Part by(int n) {
            return new Part(above, below.multiply(BigInteger.valueOf(n)));
        }

        boolean less(Part o) {
            return above.multiply(o.below).compareTo(o.above.multiply(below)) < 0;
        }
    }

    private List<Integer> children(int parent, int day, int leftOut) {
        List<Integer> found = new ArrayList<>();
        for (int c = 0; c < people.size(); c++) {
            Person x = people.get(c);
            if ((x.father == parent || x.mother == parent) && x.low <= day && c != leftOut) {
                found.add(c);
            }
        }
        return found;
    }

    private boolean older(int a, int b) {
        Person x = people.get(a);
        Person y = people.get(b);
        return x.low < y.low || x.low == y.low && (x.high < y.high || x.high == y.high && a < b);
    }

    private Map<Integer, Part> line(int p, int day, int custom) {
        return alive(p, day) ? Map.of(p, Part.ONE) : lineOf(children(p, day, NONE), day, custom);
    }

    private List<Integer> takers(List<Integer> children, int day, int custom, int sex) {
        List<Integer> found = new ArrayList<>();
        for (int c : children) {
            if (people.get(c).sex == sex && !line(c, day, custom).isEmpty()) {
                found.add(c);
            }
        }
        return found;
    }

    private Map<Integer, Part> lineOf(List<Integer> children, int day, int custom) {
        List<Integer> sons = takers(children, day, custom, 0);
        if (!sons.isEmpty() && custom != 2) {
            int one = sons.get(0);
            for (int s : sons) {
                boolean isOne = true;
                for (int t : sons) {
                    isOne &= t == s || (custom == 0 ? older(s, t) : !older(s, t));
                }
                one = isOne ? s : one;
            }
            return line(one, day, custom);
        }
        List<Integer> all = sons.isEmpty() ? takers(children, day, custom, 1) : sons;
        Map<Integer, Part> sum = new TreeMap<>();
        for (int c : all) {
            for (Map.Entry<Integer, Part> e : line(c, day, custom).entrySet()) {
                sum.merge(e.getKey(), e.getValue().by(all.size()), Part::plus);
            }
        }
        return sum;
    }

    /** The children from whom the estate goes on. */
    private List<Integer> stem(int p, int day, int custom) {
        List<Integer> found = children(p, day, NONE);
        int from = p;
        while (lineOf(found, day, custom).isEmpty() && people.get(from).father != NONE) {
            found = children(people.get(from).father, day, from);
            from = people.get(from).father;
        }
        return found;
    }

    private Part bound(int p, int q, int day, int custom, boolean most) {
        return alive(p, day) ? (p == q ? Part.ONE : Part.ZERO) : boundOf(children(p, day, NONE), q, day, custom, most);
    }

    private Part boundOf(List<Integer> children, int q, int day, int custom, boolean most) {
        List<Integer> sons = takers(children, day, custom, 0);
        if (!sons.isEmpty() && custom != 2) {
            Part best = null;
            for (int s : sons) {
                boolean may = true;
                for (int t : sons) {
                    Person x = people.get(s);
                    Person y = people.get(t);
                    may &= t == s || (custom == 0 ? x.low <= y.high : x.high >= y.low);
                }
                Part part = bound(s, q, day, custom, most);
                if (may && (best == null || (most ? best.less(part) : part.less(best)))) {
                    best = part;
                }
            }
            return best;
        }
        List<Integer> all = sons.isEmpty() ? takers(children, day, custom, 1) : sons;
        Part sum = Part.ZERO;
        for (int c : all) {
            sum = sum.plus(bound(c, q, day, custom, most).by(all.size()));
        }
        return sum;
    }

    private Map<Integer, Part> estate(int p, int l) {
        if (!isPerson(p) || people.get(p).died == NONE || !isLand(l)) {
            return null;
        }
        int day = people.get(p).died;
        int custom = lawAt(day).custom[lands.get(l).shire];
        return lineOf(stem(p, day, custom), day, custom);
    }

    long heirs(int p, int l) {
        Map<Integer, Part> heirs = estate(p, l);
        return heirs == null ? NONE : heirs.size();
    }

    long share(int p, int l, int q, int what) {
        Map<Integer, Part> heirs = estate(p, l);
        if (heirs == null || !isPerson(q) || what < 0 || what > 5) {
            return NONE;
        }
        Part part = heirs.getOrDefault(q, Part.ZERO);
        if (what >= 2) {
            int day = people.get(p).died;
            int custom = lawAt(day).custom[lands.get(l).shire];
            part = boundOf(stem(p, day, custom), q, day, custom, what >= 4);
        }
        return (what % 2 == 0 ? part.above : part.below).longValueExact();
    }

    // ---- wards

    private Map<String, Integer> asked(int p, int l, Map<Integer, Part> heirs, int q) {
        int acres = 0;
        for (int worth : lands.get(l).worth) {
            acres += worth > 0 ? 1 : 0;
        }
        Map<String, Integer> asked = new TreeMap<>();
        asked.put("worth", worth(l));
        asked.put("acres", acres);
        asked.put("shire", lands.get(l).shire);
        asked.put("service", lands.get(l).service);
        asked.put("heirs", heirs.size());
        asked.put("age", Math.max(0, Math.floorDiv(people.get(p).died - people.get(q).high, 360)));
        Part part = heirs.get(q);
        asked.put("share", part.above.multiply(BigInteger.valueOf(100)).divide(part.below).intValueExact());
        return asked;
    }

    private boolean kings(int p, int l, Map<Integer, Part> heirs) {
        int day = people.get(p).died;
        Map<String, Integer> asked = asked(p, l, heirs, new TreeMap<>(heirs).firstKey());
        for (Tree king : lawAt(day).kings) {
            if (king.value(asked) != 0) {
                return true;
            }
        }
        for (int k = 0; k < lands.size(); k++) {
            if (lands.get(k).lord == NONE && lands.get(k).service == 0 && day > 0 && holder(k, day - 1, now) == p) {
                return true;
            }
        }
        return false;
    }

    private int until(int p, int l, int q) {
        return 360 * lawAt(people.get(p).died).ward[lands.get(l).service][people.get(q).sex];
    }

    private boolean minor(int p, int l, int q) {
        return people.get(q).low + until(p, l, q) > people.get(p).died;
    }

    long ward(int p, int l, int q, int what) {
        Map<Integer, Part> heirs = estate(p, l);
        if (heirs == null || !heirs.containsKey(q) || what < 0 || what > 5) {
            return NONE - 1;
        }
        boolean minor = minor(p, l, q);
        if (what == 0 || !minor) {
            return what == 0 ? (minor ? 1 : 0) : NONE - 1;
        }
        int low = people.get(q).low + until(p, l, q);
        int day = people.get(p).died;
        switch (what) {
            case 1:
                return low;
            case 2:
                return people.get(q).high + until(p, l, q);
            case 3: {
                int to = lawAt(day).ward[lands.get(l).service][2];
                if (kings(p, l, heirs) || to == 1) {
                    return NONE;
                }
                int mother = people.get(q).mother;
                if (to == 2 && mother != NONE) {
                    int[] kin = {mother, people.get(mother).father, people.get(mother).mother};
                    for (int k : kin) {
                        if (alive(k, day)) {
                            return k;
                        }
                    }
                }
                return lands.get(l).lord;
            }
            case 4: {
                Part part = heirs.get(q);
                BigInteger above = part.above.multiply(BigInteger.valueOf((long) worth(l) * (low - day)));
                return above.divide(part.below.multiply(BigInteger.valueOf(360))).longValueExact();
            }
            default:
                return kings(p, l, heirs) ? 1 : 0;
        }
    }

    long relief(int p, int l, int q) {
        Map<Integer, Part> heirs = estate(p, l);
        if (heirs == null || !heirs.containsKey(q) || minor(p, l, q)) {
            return NONE;
        }
        int sum = 0;
        Map<String, Integer> asked = asked(p, l, heirs, q);
        for (Tree[] relief : lawAt(people.get(p).died).reliefs) {
            sum += relief[1].value(asked) != 0 ? relief[0].value(asked) : 0;
        }
        return Math.max(0, sum);
    }

    long dower(int p, int l, int what) {
        if (!isPerson(p) || people.get(p).sex != 0 || people.get(p).died == NONE || !isLand(l) || what < 0 || what > 3) {
            return NONE;
        }
        int day = people.get(p).died;
        if (!alive(people.get(p).wife, day)) {
            return NONE;
        }
        Law law = lawAt(day);
        int due = (int) Math.ceil((double) worth(l) * law.dowerPart / law.dowerOf);
        int[] best = null;
        for (int set = 0; set < 64; set++) {
            int worth = 0;
            List<Integer> places = new ArrayList<>();
            for (int a = 0; a < 6; a++) {
                if ((set >> a & 1) == 1 && lands.get(l).worth[a] > 0) {
                    worth += lands.get(l).worth[a];
                    places.add(lands.get(l).place[a]);
                }
            }
            places.sort(null);
            int spread = places.isEmpty() ? 0 : places.get(places.size() - 1) - places.get(0);
            int[] one = {worth, spread, set};
            if (worth >= due && (best == null || Arrays.compare(one, best) < 0)) {
                best = one;
            }
        }
        return new int[] {due, best[2], best[0], best[1]}[what];
    }

    // ---- seizings

    long seize(int l, int holder, int day, int hangs, int death) {
        boolean can = isLand(l) && (holder == NONE || isPerson(holder)) && day >= 0 && day <= now;
        can &= hangs == NONE || hangs >= 0 && hangs < seizings.size() && seizings.get(hangs).since == NONE;
        can &= death == NONE || isPerson(death) && people.get(death).died != NONE;
        if (!can || seizings.size() == 100) {
            return NONE;
        }
        Seizing x = new Seizing();
        x.land = l;
        x.holder = holder;
        x.from = day;
        x.told = now;
        x.hangs = hangs;
        if (death != NONE && now - people.get(death).died > lawAt(people.get(death).died).writ) {
            x.since = now;
        }
        seizings.add(x);
        return seizings.size() - 1;
    }

    long traverse(int e) {
        if (e < 0 || e >= seizings.size() || seizings.get(e).since != NONE) {
            return NONE;
        }
        int told = seizings.get(e).told;
        return now - told > lawAt(told).traverse ? NONE : undo(e);
    }

    private int undo(int e) {
        int undone = seizings.get(e).since == NONE ? 1 : 0;
        if (undone == 1) {
            seizings.get(e).since = now;
        }
        for (int f = 0; f < seizings.size(); f++) {
            undone += seizings.get(f).hangs == e ? undo(f) : 0;
        }
        return undone;
    }

    long seizing(int e, int what) {
        if (e < 0 || e >= seizings.size() || what < 0 || what > 5) {
            return NONE - 1;
        }
        Seizing x = seizings.get(e);
        return new int[] {x.land, x.holder, x.from, x.told, x.hangs, x.since}[what];
    }

    long holder(int l, int day, int known) {
        if (!isLand(l) || day < 0 || day > 29999 || known < 0 || known > now) {
            return NONE - 2;
        }
        for (int from = day; from >= 0; from--) {
            for (int e = seizings.size() - 1; e >= 0; e--) {
                Seizing x = seizings.get(e);
                if (x.land == l && x.from == from && x.told <= known && (x.since == NONE || x.since > known)) {
                    return x.holder;
                }
            }
        }
        return NONE - 1;
    }

    // ---- proofs

    long event(int e, int day) {
        if (e < 0 || e > 15 || day < 0 || day > 29999) {
            return 0;
        }
        events[e] = day;
        return 1;
    }

    long forget(int p) {
        if (!isPerson(p)) {
            return 0;
        }
        people.get(p).memories.clear();
        return 1;
    }

    private boolean agrees(int[] memory, int day) {
        int of = events[memory[1]];
        switch (memory[0]) {
            case 0: return day < of;
            case 1: return day > of;
            case 2: return day == of - memory[2];
            case 3: return day == of + memory[2];
            default: return Math.abs(day - (of - 360 * memory[2])) <= memory[3];
        }
    }

    long proof(int p, int what) {
        if (!isPerson(p) || what < 0 || what > 4 || people.get(p).memories.isEmpty()) {
            return NONE;
        }
        int[] agree = new int[30000];
        int most = 0;
        for (int day = 0; day < 30000; day++) {
            for (int[] memory : people.get(p).memories) {
                agree[day] += agrees(memory, day) ? 1 : 0;
            }
            most = Math.max(most, agree[day]);
        }
        int first = NONE;
        int last = NONE;
        int such = 0;
        for (int day = 0; day < 30000; day++) {
            if (agree[day] == most) {
                first = first == NONE ? day : first;
                last = day;
                such++;
            }
        }
        int doubted = 0;
        for (int m = 0; m < people.get(p).memories.size(); m++) {
            doubted += agrees(people.get(p).memories.get(m), first) ? 0 : 1 << m;
        }
        return new int[] {first, last, most, most > 0 && such == last - first + 1 ? 1 : 0, doubted}[what];
    }

    long proved(int p) {
        return proof(p, 3) == 1 ? born(p, (int) proof(p, 0), (int) proof(p, 1)) : 0;
    }

    // ---- juries

    long find(int j, int l, int m) {
        if (j < 0 || j > 9 || !isLand(l) || l == m || m != NONE && !isLand(m)) {
            return 0;
        }
        words[j][l] = m;
        return 1;
    }

    long unsay(int j, int l) {
        if (j < 0 || j > 9 || !isLand(l) || words[j][l] == null) {
            return 0;
        }
        words[j][l] = null;
        return 1;
    }

    /** Of which each LAND is held by those not doubted; null if they QUARREL. */
    private Integer[] held(int doubted) {
        Integer[] held = new Integer[12];
        for (int j = 0; j < 10; j++) {
            for (int l = 0; l < 12 && (doubted >> j & 1) == 0; l++) {
                if (words[j][l] != null && held[l] != null && !held[l].equals(words[j][l])) {
                    return null;
                }
                held[l] = words[j][l] != null ? words[j][l] : held[l];
            }
        }
        for (int l = 0; l < 12; l++) {
            List<Integer> way = new ArrayList<>();
            for (Integer at = l; at != null && at != NONE; at = held[at]) {
                if (way.contains(at)) {
                    return null;
                }
                way.add(at);
            }
        }
        return held;
    }

    private int fewest() {
        for (int size = 0; size <= 10; size++) {
            for (int set = 0; set < 1024; set++) {
                if (Integer.bitCount(set) == size && held(set) != null) {
                    return set;
                }
            }
        }
        throw new IllegalStateException();
    }

    long quarrel(int what) {
        switch (what) {
            case 0: return held(0) == null ? 1 : 0;
            case 1: return fewest();
            case 2: return Integer.bitCount(fewest());
            default: return NONE;
        }
    }

    long chain(int l, int i) {
        if (!isLand(l) || i < 0) {
            return NONE - 1;
        }
        Integer[] held = held(fewest());
        Integer at = held[l];
        for (int n = 0; n < Math.min(i, 20) && at != null && at != NONE; n++) {
            at = held[at];
        }
        return at == null ? NONE : at;
    }
}
