import java.util.Arrays;

/** A hall of inquests. What each call does and answers is told in DOC.md, promise by promise. */
public final class InquestHall {
    public static final int NONE = -1;

    private static final int LAST_DAY = 29999;
    private static final int YEAR = 360;
    private static final int MOST_DAYS = 9999;
    private static final int REIGNS = 4;
    private static final int NOBODY = NONE - 1;
    private static final int NO_ANSWER = NONE - 1;
    private static final int NO_SUCH_HOLDING = NONE - 2;

    private static final int KNIGHT_SERVICE = 0;
    private static final int TO_LORD = 0;
    private static final int TO_KING = 1;

    private static final int ELDEST_CUSTOM = 0;
    private static final int ALL_CUSTOM = 2;

    private static final int SHARE_AS_BORN = 0;
    private static final int SHARE_LEAST = 1;
    private static final int SHARE_MOST = 2;

    /* The kind of a TOKEN: a sign's is its own byte, a KEYWORD's is FIRST_WORD and its place in WORDS. */
    private static final int END = 0;
    private static final int BAD = 1;
    private static final int NUMBER = 2;
    private static final int FIRST_WORD = 100;
    private static final int WORTH = 100;
    private static final int HEIRS = 105;
    private static final int ELDEST = 107;
    private static final int KNIGHT = 110;
    private static final int LORD = 113;
    private static final int KING = 114;
    private static final int WARD = 116;
    private static final int DOWER = 117;
    private static final int WRIT = 118;
    private static final int TRAVERSE = 119;
    private static final int RELIEF = 120;
    private static final int IN = 121;
    private static final int UNTIL = 122;
    private static final int MAID = 123;
    private static final int TO = 124;
    private static final int OF = 125;
    private static final int WHEN = 126;
    private static final int OR = 127;
    private static final int AND = 128;
    private static final int NOT = 129;
    private static final int BEFORE = 130;
    private static final int AFTER = 131;
    private static final int DAYS = 132;
    private static final int YEARS = 133;
    private static final int AT = 134;
    private static final int OFF = 135;
    private static final int WORD_COUNT = 36;
    private static final int ASKED_COUNT = 7;
    private static final String WORDS = "worth acres shire service age heirs share eldest youngest all knight socage serjeanty lord king kin ward dower writ traverse relief in until maid to of when or and not before after days years at off ";

    private static final int CANT_STAND = 1;
    private static final int WRONG_NUMBER = 2;
    private static final int TOO_MANY = 3;
    private static final int MOST_NUMBER = 99999;

    private final People people;
    private final Lands lands;
    private final Text text;
    private final LawReader lawReader;
    private final Remembered remembered;
    private final MemoryReader memoryReader;
    private final Descent descent;
    private final Reckoner reckoner;
    private final Seizings seizings;
    private final Juries juries;
    private final Law[] laws;
    private final int[] reignFrom;
    private int reigns;
    private Law draft;
    private int now;

    public InquestHall() {
        people = new People();
        lands = new Lands();
        text = new Text();
        lawReader = new LawReader(text);
        remembered = new Remembered();
        memoryReader = new MemoryReader(text, remembered);
        descent = new Descent(people);
        reckoner = new Reckoner();
        seizings = new Seizings();
        juries = new Juries();
        laws = new Law[REIGNS];
        for (int r = 0; r < REIGNS; r++) {
            laws[r] = new Law();
        }
        reignFrom = new int[REIGNS];
        reigns = 1;
        draft = new Law();
        now = 0;
    }

    public int days(int n) {
        if (n < 1 || n > MOST_DAYS || now + n > LAST_DAY) {
            return NONE;
        }
        now += n;
        return now;
    }

    public int person(int sex, int father, int mother, int low, int high) {
        boolean kin = (father == NONE || people.isMan(father)) && (mother == NONE || people.isWoman(mother));
        if (sex < 0 || sex > 1 || !kin || !isBirth(low, high)) {
            return NONE;
        }
        return people.add(sex, father, mother, low, high);
    }

    public boolean dies(int p, int day) {
        if (!people.has(p) || people.isDead(p) || day < people.low[p] || day > now) {
            return false;
        }
        people.died[p] = day;
        return true;
    }

    public boolean marry(int p, int q) {
        if (!people.isMan(p) || (q != NONE && !people.isWoman(q))) {
            return false;
        }
        people.wife[p] = q;
        return true;
    }

    public int of(int p, int what) {
        if (!people.has(p)) {
            return NONE;
        }
        return what == 7 ? remembered.count[p] : people.told(p, what);
    }

    public boolean born(int p, int low, int high) {
        if (!people.has(p) || !isBirth(low, high) || (people.isDead(p) && people.died[p] < low)) {
            return false;
        }
        people.low[p] = low;
        people.high[p] = high;
        return true;
    }

    public int land(int shire, int service, int lord) {
        if (shire < 0 || shire > 3 || service < 0 || service > 2 || (lord != NONE && !people.has(lord))) {
            return NONE;
        }
        return lands.add(shire, service, lord);
    }

    public boolean acre(int l, int a, int worth, int place) {
        if (!lands.has(l) || a < 0 || a >= Lands.ACRES || worth < 0 || worth > 99 || place < 0 || place > 99) {
            return false;
        }
        lands.worth[l * Lands.ACRES + a] = worth;
        lands.place[l * Lands.ACRES + a] = place;
        return true;
    }

    public int landOf(int l, int what) {
        return lands.has(l) ? lands.told(l, what) : NONE;
    }

    public int reign(int day) {
        if (reigns >= REIGNS || day <= reignFrom[reigns - 1] || day > LAST_DAY) {
            return NONE;
        }
        reignFrom[reigns] = day;
        reigns++;
        return reigns - 1;
    }

    public int feed(int a, int b, int c, int d, int e) {
        if (text.length + 20 > Text.LIMIT) {
            return NONE;
        }
        text.put(a);
        text.put(b);
        text.put(c);
        text.put(d);
        text.put(e);
        return text.length;
    }

    public boolean end(int n) {
        if (n < 0 || n > text.length) {
            return false;
        }
        text.length = n;
        return true;
    }

    public int reads(int r) {
        if (r < 0 || r >= reigns) {
            text.length = 0;
            return NONE;
        }
        text.scan();
        int lines = lawReader.read(draft);
        if (lines != NONE) {
            Law earlier = laws[r];
            laws[r] = draft;
            draft = earlier;
        }
        return lines;
    }

    public int fault(int what) {
        if (what == 0) {
            return text.fault;
        }
        return what == 1 ? text.faultPlace : NONE;
    }

    public int lawOn(int day, int what) {
        if (!isDay(day)) {
            return NONE;
        }
        return what == 0 ? reignOn(day) : lawAt(day).told(what);
    }

    public int heirs(int p, int l) {
        return layDescent(p, l) ? Integer.bitCount(descent.heirSet()) : NONE;
    }

    public long share(int p, int l, int q, int what) {
        if (what < 0 || what > 5 || !people.has(q) || !layDescent(p, l)) {
            return NONE;
        }
        int how = what < 2 ? SHARE_AS_BORN : what < 4 ? SHARE_LEAST : SHARE_MOST;
        descent.part(q, how);
        return what % 2 == 0 ? descent.partAbove() : descent.partBelow();
    }

    public long ward(int p, int l, int q, int what) {
        if (what < 0 || what > 5 || !isHeir(p, l, q)) {
            return NO_ANSWER;
        }
        boolean minor = !isOfAge(p, l, q);
        if (what == 0) {
            return minor ? 1 : 0;
        }
        if (!minor) {
            return NO_ANSWER;
        }
        switch (what) {
            case 1:
                return people.low[q] + wardDays(p, l, q);
            case 2:
                return people.high[q] + wardDays(p, l, q);
            case 3:
                return isKingsRight(p, l) ? NONE : guardian(p, l, q);
            case 4:
                return profit(p, l, q);
            default:
                return isKingsRight(p, l) ? 1 : 0;
        }
    }

    public int relief(int p, int l, int q) {
        if (!isHeir(p, l, q) || !isOfAge(p, l, q)) {
            return NONE;
        }
        descent.part(q, SHARE_AS_BORN);
        ask(p, l, q);
        reckoner.reckon(lawAt(people.died[p]));
        return Math.max(0, reckoner.sum);
    }

    public int dower(int p, int l, int what) {
        if (what < 0 || what > 3 || !lands.has(l) || !people.isMan(p) || !people.isDead(p)) {
            return NONE;
        }
        int day = people.died[p];
        if (!people.isAlive(people.wife[p], day)) {
            return NONE;
        }
        Law law = lawAt(day);
        int below = Math.max(1, law.dowerOf);
        int due = (lands.worthOf(l) * law.dowerPart + below - 1) / below;
        lands.layDower(l, due);
        switch (what) {
            case 0:
                return due;
            case 1:
                return lands.dowerSet;
            case 2:
                return lands.dowerWorth;
            default:
                return lands.dowerSpread;
        }
    }

    public int seize(int l, int holder, int day, int hangs, int death) {
        boolean known = lands.has(l) && (holder == NONE || people.has(holder)) && day >= 0 && day <= now;
        boolean hung = hangs == NONE || seizings.stands(hangs);
        if (!known || !hung || (death != NONE && !people.isDead(death))) {
            return NONE;
        }
        int e = seizings.add(l, holder, day, hangs, now);
        if (e != NONE && death != NONE && now > people.died[death] + lawAt(people.died[death]).writ) {
            seizings.voidSince[e] = now;
        }
        return e;
    }

    public int traverse(int e) {
        if (!seizings.stands(e)) {
            return NONE;
        }
        int told = seizings.told[e];
        return now > told + lawAt(told).traverse ? NONE : seizings.undo(e, now);
    }

    public int seizing(int e, int what) {
        return seizings.has(e) ? seizings.tellOf(e, what) : NO_ANSWER;
    }

    public int holder(int l, int day, int known) {
        if (!lands.has(l) || !isDay(day) || known < 0 || known > now) {
            return NO_SUCH_HOLDING;
        }
        return seizings.holderAt(l, day, known);
    }

    public boolean event(int e, int day) {
        if (e < 0 || e >= Remembered.EVENTS || !isDay(day)) {
            return false;
        }
        remembered.eventDay[e] = day;
        return true;
    }

    public int memories(int p) {
        if (!people.has(p)) {
            text.length = 0;
            return NONE;
        }
        text.scan();
        return memoryReader.read(p);
    }

    public boolean forget(int p) {
        if (!people.has(p)) {
            return false;
        }
        remembered.count[p] = 0;
        return true;
    }

    public int proof(int p, int what) {
        if (what < 0 || what > 4 || !people.has(p) || remembered.count[p] == 0) {
            return NONE;
        }
        remembered.prove(p);
        switch (what) {
            case 0:
                return remembered.first;
            case 1:
                return remembered.last;
            case 2:
                return remembered.most;
            case 3:
                return remembered.sure ? 1 : 0;
            default:
                return remembered.doubted(p);
        }
    }

    public boolean proved(int p) {
        if (!people.has(p) || remembered.count[p] == 0) {
            return false;
        }
        remembered.prove(p);
        return remembered.sure && born(p, remembered.first, remembered.last);
    }

    public boolean find(int j, int l, int m) {
        if (!Juries.has(j) || !lands.has(l) || m == l || (m != NONE && !lands.has(m))) {
            return false;
        }
        juries.say(j, l, m);
        return true;
    }

    public boolean unsay(int j, int l) {
        if (!Juries.has(j) || !lands.has(l) || !juries.hasSaid(j, l)) {
            return false;
        }
        juries.say(j, l, Juries.UNSAID);
        return true;
    }

    public int quarrel(int what) {
        if (what < 0 || what > 2) {
            return NONE;
        }
        juries.weigh();
        if (what == 1) {
            return juries.fewest;
        }
        int doubted = Integer.bitCount(juries.fewest);
        return what == 2 ? doubted : Math.min(1, doubted);
    }

    public int chain(int l, int i) {
        if (!lands.has(l) || i < 0) {
            return NO_ANSWER;
        }
        juries.weigh();
        return juries.above(l, i);
    }

    private static boolean isDay(int day) {
        return day >= 0 && day <= LAST_DAY;
    }

    private boolean isBirth(int low, int high) {
        return low >= 0 && low <= high && high <= now;
    }

    private int reignOn(int day) {
        int found = 0;
        for (int r = 1; r < reigns; r++) {
            if (reignFrom[r] <= day) {
                found = r;
            }
        }
        return found;
    }

    private Law lawAt(int day) {
        return laws[reignOn(day)];
    }

    private boolean layDescent(int p, int l) {
        if (!people.isDead(p) || !lands.has(l)) {
            return false;
        }
        int day = people.died[p];
        descent.lay(p, day, lawAt(day).custom[lands.shire[l]]);
        return true;
    }

    private boolean isHeir(int p, int l, int q) {
        return people.has(q) && layDescent(p, l) && (descent.heirSet() & 1 << q) != 0;
    }

    private int wardDays(int p, int l, int q) {
        Law law = lawAt(people.died[p]);
        int service = lands.service[l];
        return YEAR * (people.isMan(q) ? law.untilMan[service] : law.untilWoman[service]);
    }

    private boolean isOfAge(int p, int l, int q) {
        return people.low[q] + wardDays(p, l, q) <= people.died[p];
    }

    private int guardian(int p, int l, int q) {
        int day = people.died[p];
        int to = lawAt(day).wardTo[lands.service[l]];
        int mother = people.mother[q];
        if (to == TO_KING) {
            return NONE;
        }
        if (to == TO_LORD || mother == NONE) {
            return lands.lord[l];
        }
        if (people.isAlive(mother, day)) {
            return mother;
        }
        if (people.isAlive(people.father[mother], day)) {
            return people.father[mother];
        }
        return people.isAlive(people.mother[mother], day) ? people.mother[mother] : lands.lord[l];
    }

    private long profit(int p, int l, int q) {
        descent.part(q, SHARE_AS_BORN);
        long days = people.low[q] + wardDays(p, l, q) - people.died[p];
        long below = Math.max(1, descent.partBelow()) * YEAR;
        return lands.worthOf(l) * descent.partAbove() * days / below;
    }

    private boolean isKingsRight(int p, int l) {
        int first = descent.firstHeir();
        if (first != NONE) {
            descent.part(first, SHARE_AS_BORN);
        }
        ask(p, l, first);
        reckoner.reckon(lawAt(people.died[p]));
        return reckoner.kings || heldOfKing(p);
    }

    private boolean heldOfKing(int p) {
        for (int l = 0; l < lands.count; l++) {
            boolean ofKing = lands.lord[l] == NONE && lands.service[l] == KNIGHT_SERVICE;
            if (ofKing && seizings.holderAt(l, people.died[p] - 1, now) == p) {
                return true;
            }
        }
        return false;
    }

    /** Puts what a formula may ask of LAND l and heir q (NONE: there is none) at p's death; q's part is reckoned. */
    private void ask(int p, int l, int q) {
        int[] asked = reckoner.asked;
        asked[0] = lands.worthOf(l);
        asked[1] = lands.acresOf(l);
        asked[2] = lands.shire[l];
        asked[3] = lands.service[l];
        asked[4] = 0;
        asked[5] = Integer.bitCount(descent.heirSet());
        asked[6] = 0;
        if (q != NONE) {
            asked[4] = Math.max(0, people.died[p] - people.high[q]) / YEAR;
            asked[6] = (int) (100 * descent.partAbove() / Math.max(1, descent.partBelow()));
        }
    }

    /** The PEOPLE, a row each. */
    private static final class People {
        static final int LIMIT = 32;

        final int[] sex = new int[LIMIT];
        final int[] father = new int[LIMIT];
        final int[] mother = new int[LIMIT];
        final int[] low = new int[LIMIT];
        final int[] high = new int[LIMIT];
        final int[] died = new int[LIMIT];
        final int[] wife = new int[LIMIT];
        int count;

        int add(int itsSex, int itsFather, int itsMother, int itsLow, int itsHigh) {
            if (count >= LIMIT) {
                return NONE;
            }
            sex[count] = itsSex;
            father[count] = itsFather;
            mother[count] = itsMother;
            low[count] = itsLow;
            high[count] = itsHigh;
            died[count] = NONE;
            wife[count] = NONE;
            count++;
            return count - 1;
        }

        boolean has(int p) {
            return p >= 0 && p < count;
        }

        boolean isMan(int p) {
            return has(p) && sex[p] == 0;
        }

        boolean isWoman(int p) {
            return has(p) && sex[p] == 1;
        }

        boolean isDead(int p) {
            return has(p) && died[p] != NONE;
        }

        boolean isAlive(int p, int day) {
            return has(p) && low[p] <= day && (died[p] == NONE || died[p] > day);
        }

        boolean isOlder(int p, int q) {
            if (low[p] != low[q]) {
                return low[p] < low[q];
            }
            return high[p] != high[q] ? high[p] < high[q] : p < q;
        }

        int told(int p, int what) {
            switch (what) {
                case 0:
                    return sex[p];
                case 1:
                    return father[p];
                case 2:
                    return mother[p];
                case 3:
                    return low[p];
                case 4:
                    return high[p];
                case 5:
                    return died[p];
                case 6:
                    return wife[p];
                default:
                    return NONE;
            }
        }
    }

    /** The LANDS with their ACRES, and the latest dower that was laid out. */
    private static final class Lands {
        static final int LIMIT = 12;
        static final int ACRES = 6;

        final int[] shire = new int[LIMIT];
        final int[] service = new int[LIMIT];
        final int[] lord = new int[LIMIT];
        final int[] worth = new int[LIMIT * ACRES];
        final int[] place = new int[LIMIT * ACRES];
        int count;
        int dowerSet;
        int dowerWorth;
        int dowerSpread;

        int add(int itsShire, int itsService, int itsLord) {
            if (count >= LIMIT) {
                return NONE;
            }
            shire[count] = itsShire;
            service[count] = itsService;
            lord[count] = itsLord;
            count++;
            return count - 1;
        }

        boolean has(int l) {
            return l >= 0 && l < count;
        }

        int told(int l, int what) {
            if (what >= 10 && what < 10 + ACRES) {
                return worth[l * ACRES + what - 10];
            }
            if (what >= 20 && what < 20 + ACRES) {
                return place[l * ACRES + what - 20];
            }
            switch (what) {
                case 0:
                    return shire[l];
                case 1:
                    return service[l];
                case 2:
                    return lord[l];
                case 3:
                    return worthOf(l);
                default:
                    return NONE;
            }
        }

        int worthOf(int l) {
            return worthOfSet(l, (1 << ACRES) - 1);
        }

        int worthOfSet(int l, int set) {
            int sum = 0;
            for (int a = 0; a < ACRES; a++) {
                if ((set & 1 << a) != 0) {
                    sum += worth[l * ACRES + a];
                }
            }
            return sum;
        }

        int acresOf(int l) {
            int found = 0;
            for (int a = 0; a < ACRES; a++) {
                if (worth[l * ACRES + a] > 0) {
                    found++;
                }
            }
            return found;
        }

        int spreadOfSet(int l, int set) {
            int least = NONE;
            int greatest = NONE;
            for (int a = 0; a < ACRES; a++) {
                int at = l * ACRES + a;
                if ((set & 1 << a) != 0 && worth[at] > 0) {
                    least = least == NONE ? place[at] : Math.min(least, place[at]);
                    greatest = Math.max(greatest, place[at]);
                }
            }
            return greatest - least;
        }

        void layDower(int l, int due) {
            dowerSet = (1 << ACRES) - 1;
            dowerWorth = worthOf(l);
            dowerSpread = spreadOfSet(l, dowerSet);
            // Downwards, so that of like sets the least number is the last one taken.
            for (int set = dowerSet - 1; set >= 0; set--) {
                int itsWorth = worthOfSet(l, set);
                if (itsWorth >= due && itsWorth <= dowerWorth) {
                    int spread = spreadOfSet(l, set);
                    if (itsWorth < dowerWorth || spread <= dowerSpread) {
                        dowerSet = set;
                        dowerWorth = itsWorth;
                        dowerSpread = spread;
                    }
                }
            }
        }
    }

    /** The LAW of a REIGN: what its lines told, and its relief and king lines as code for the Reckoner. */
    private static final class Law {
        final int[] custom = new int[4];
        final int[] untilMan = new int[3];
        final int[] untilWoman = new int[3];
        final int[] wardTo = new int[3];
        int dowerPart;
        int dowerOf;
        int writ;
        int traverse;
        /* A NUMBER is itself; all else is the negative of its TOKEN's kind, behind what it works on. */
        final int[] code = new int[Text.LIMIT];
        int codeLength;

        Law() {
            reset();
        }

        void reset() {
            Arrays.fill(custom, ELDEST_CUSTOM);
            Arrays.fill(untilMan, 0);
            Arrays.fill(untilWoman, 0);
            Arrays.fill(wardTo, TO_LORD);
            dowerPart = 1;
            dowerOf = 3;
            writ = 9999;
            traverse = 9999;
            codeLength = 0;
        }

        void put(int item) {
            if (codeLength < code.length) {
                code[codeLength] = item;
                codeLength++;
            }
        }

        int told(int what) {
            if (what >= 5 && what <= 8) {
                return custom[what - 5];
            }
            if (what >= 10 && what <= 18) {
                return wardTold((what - 10) / 3, (what - 10) % 3);
            }
            switch (what) {
                case 1:
                    return dowerPart;
                case 2:
                    return dowerOf;
                case 3:
                    return writ;
                case 4:
                    return traverse;
                default:
                    return NONE;
            }
        }

        private int wardTold(int service, int what) {
            if (what == 0) {
                return untilMan[service];
            }
            return what == 1 ? untilWoman[service] : wardTo[service];
        }
    }

    /** The TAPE, its TOKENS once it is scanned, how far they are read, and the first FAULT. */
    private static final class Text {
        static final int LIMIT = 800;

        final byte[] bytes = new byte[LIMIT];
        int length;
        final int[] wordStart = new int[WORD_COUNT + 1];
        final int[] kinds = new int[LIMIT + 1];
        final int[] values = new int[LIMIT + 1];
        final int[] places = new int[LIMIT + 1];
        int count;
        int at;
        int fault;
        int faultPlace = NONE;

        Text() {
            int word = 1;
            for (int i = 0; i < WORDS.length() && word <= WORD_COUNT; i++) {
                if (WORDS.charAt(i) == ' ') {
                    wordStart[word] = i + 1;
                    word++;
                }
            }
        }

        void put(int four) {
            for (int shift = 24; shift >= 0 && length < LIMIT; shift -= 8) {
                bytes[length] = (byte) (four >> shift);
                length++;
            }
        }

        /** Takes the TOKENS of the TAPE, which is empty then. */
        void scan() {
            count = 0;
            at = 0;
            fault = 0;
            faultPlace = NONE;
            int last = NONE;
            for (int i = 0; i < length; i++) {
                if (i > last && bytes[i] != ' ' && bytes[i] != '\n') {
                    last = lastTogether(i);
                    addToken(kindOf(i, last), numberOf(i, last), i);
                }
            }
            addToken(END, 0, length);
            length = 0;
        }

        private void addToken(int kind, int value, int place) {
            if (count < kinds.length) {
                kinds[count] = kind;
                values[count] = value;
                places[count] = place;
                count++;
            }
        }

        private static boolean isLetter(int c) {
            return (c >= 'a' && c <= 'z') || (c >= 'A' && c <= 'Z');
        }

        private static boolean isDigit(int c) {
            return c >= '0' && c <= '9';
        }

        private static boolean isSign(int c) {
            return (c >= '(' && c <= '+') || c == '-' || c == '/' || (c >= ';' && c <= '>');
        }

        private int lastTogether(int from) {
            int last = from;
            if (isLetter(bytes[from])) {
                for (int i = from + 1; i < length && isLetter(bytes[i]); i++) {
                    last = i;
                }
            } else if (isDigit(bytes[from])) {
                for (int i = from + 1; i < length && isDigit(bytes[i]); i++) {
                    last = i;
                }
            }
            return last;
        }

        private int kindOf(int from, int last) {
            int c = bytes[from];
            if (isLetter(c)) {
                return wordKind(from, last);
            }
            if (isDigit(c)) {
                return last - from < 5 ? NUMBER : BAD;
            }
            return isSign(c) ? c : BAD;
        }

        private int numberOf(int from, int last) {
            int value = 0;
            if (isDigit(bytes[from]) && last - from < 5) {
                for (int i = from; i <= last; i++) {
                    value = 10 * value + bytes[i] - '0';
                }
            }
            return value;
        }

        private int wordKind(int from, int last) {
            for (int word = 0; word < WORD_COUNT; word++) {
                if (isWord(word, from, last)) {
                    return FIRST_WORD + word;
                }
            }
            return BAD;
        }

        private boolean isWord(int word, int from, int last) {
            int start = wordStart[word];
            if (wordStart[word + 1] - start - 1 != last - from + 1) {
                return false;
            }
            for (int i = from; i <= last; i++) {
                if (WORDS.charAt(start + i - from) != bytes[i]) {
                    return false;
                }
            }
            return true;
        }

        int kind() {
            return at < count ? kinds[at] : END;
        }

        int value() {
            return at < count ? values[at] : 0;
        }

        void step() {
            if (at < count) {
                at++;
            }
        }

        void fail(int what) {
            if (fault == 0 && at < count) {
                fault = what;
                faultPlace = places[at];
            }
        }

        /* The takers below do nothing behind a FAULT, so that a line reads straight on. */

        void take(int wanted) {
            if (fault == 0 && !takeIf(wanted)) {
                fail(CANT_STAND);
            }
        }

        boolean takeIf(int wanted) {
            if (fault != 0 || kind() != wanted) {
                return false;
            }
            step();
            return true;
        }

        int takeNumber(int most) {
            int value = value();
            if (fault == 0 && kind() == NUMBER && value > most) {
                fail(WRONG_NUMBER);
            }
            take(NUMBER);
            return value;
        }

        /** Which one of KEYWORDS that stand together in WORDS comes, counted from the first. */
        int takeOneOf(int first, int howMany) {
            int which = kind() - first;
            if (which < 0 || which >= howMany) {
                fail(CANT_STAND);
                return 0;
            }
            take(first + which);
            return which;
        }
    }

    /** Reads a TEXT as a LAW. */
    private static final class LawReader {
        static final int MOST_LINES = 30;
        static final int MOST_OPEN = 8;
        static final int MOST_SHIRE = 3;
        static final int MOST_AGE = 40;
        static final int MOST_TERM = 9999;

        final Text text;
        Law law;
        /* Of the formula that is being read: what waits for its right side, and what is open. */
        final int[] waiting = new int[64];
        int waitingCount;
        int before;
        int parens;
        int nots;
        boolean isCondition;
        boolean compared;

        LawReader(Text itsText) {
            text = itsText;
        }

        int read(Law draft) {
            law = draft;
            law.reset();
            int lines = 0;
            for (int n = 0; n <= Text.LIMIT && text.fault == 0 && text.kind() != END; n++) {
                int word = text.kind();
                if (!startsLine(word)) {
                    text.fail(CANT_STAND);
                } else if (lines >= MOST_LINES) {
                    text.fail(TOO_MANY);
                }
                if (text.fault == 0) {
                    line(word);
                    lines++;
                }
            }
            return text.fault == 0 ? lines : NONE;
        }

        private static boolean startsLine(int kind) {
            return kind == HEIRS || kind == KING || (kind >= WARD && kind <= RELIEF);
        }

        private void line(int word) {
            text.take(word);
            switch (word) {
                case HEIRS:
                    heirsLine();
                    break;
                case WARD:
                    wardLine();
                    break;
                case DOWER:
                    dowerLine();
                    break;
                case WRIT:
                    law.writ = text.takeNumber(MOST_TERM);
                    break;
                case TRAVERSE:
                    law.traverse = text.takeNumber(MOST_TERM);
                    break;
                case RELIEF:
                    reliefLine();
                    break;
                default:
                    kingLine();
                    break;
            }
            text.take(';');
        }

        private void heirsLine() {
            int custom = text.takeOneOf(ELDEST, 3);
            if (!text.takeIf(IN)) {
                Arrays.fill(law.custom, custom);
                return;
            }
            int shire = text.takeNumber(MOST_SHIRE);
            if (text.fault == 0 && shire < law.custom.length) {
                law.custom[shire] = custom;
            }
        }

        private void wardLine() {
            int service = text.takeOneOf(KNIGHT, 3);
            text.take(UNTIL);
            int man = text.takeNumber(MOST_AGE);
            int woman = text.takeIf(MAID) ? text.takeNumber(MOST_AGE) : man;
            text.take(TO);
            int to = text.takeOneOf(LORD, 3);
            law.untilMan[service] = man;
            law.untilWoman[service] = woman;
            law.wardTo[service] = to;
        }

        private void dowerLine() {
            law.dowerPart = text.takeNumber(MOST_NUMBER);
            text.take(OF);
            boolean wrong = text.value() == 0 || text.value() < law.dowerPart;
            if (text.fault == 0 && text.kind() == NUMBER && wrong) {
                text.fail(WRONG_NUMBER);
            }
            law.dowerOf = text.takeNumber(MOST_NUMBER);
        }

        private void reliefLine() {
            formula(false);
            if (text.takeIf(WHEN)) {
                formula(true);
                law.put(-WHEN);
            } else {
                law.put(-RELIEF);
            }
        }

        private void kingLine() {
            text.take(WHEN);
            formula(true);
            law.put(-KING);
        }

        /** Reads E, or B if it is a condition, up to a TOKEN that can't go on with it. */
        private void formula(boolean asCondition) {
            isCondition = asCondition;
            waitingCount = 0;
            before = END;
            parens = 0;
            nots = 0;
            compared = false;
            boolean operandDue = true;
            boolean goesOn = true;
            for (int n = 0; n <= Text.LIMIT && goesOn && text.fault == 0; n++) {
                int kind = text.kind();
                if (operandDue) {
                    operandDue = operand(kind);
                } else if (mayFollow(kind)) {
                    operandDue = operator(kind);
                } else {
                    goesOn = false;
                }
            }
            if (parens > 0 || (isCondition && !compared)) {
                text.fail(CANT_STAND);
            }
            settle(rank(OR));
        }

        /** Takes what stands where an operand is due; whether one is due still. */
        private boolean operand(int kind) {
            boolean divides = before == '/';
            if (kind == NUMBER || (isAsked(kind) && !divides)) {
                if (divides && text.value() == 0) {
                    text.fail(WRONG_NUMBER);
                }
                law.put(kind == NUMBER ? text.value() : -kind);
                goBehind(kind);
                return false;
            }
            if ((kind != '(' || divides) && (kind != NOT || !mayNegate())) {
                text.fail(CANT_STAND);
            } else if (parens + nots >= MOST_OPEN) {
                text.fail(TOO_MANY);
            } else {
                parens += kind == '(' ? 1 : 0;
                nots += kind == NOT ? 1 : 0;
                hold(kind);
                goBehind(kind);
            }
            return true;
        }

        private static boolean isAsked(int kind) {
            return kind >= WORTH && kind < WORTH + ASKED_COUNT;
        }

        private boolean mayNegate() {
            return isCondition && (before == END || before == NOT || before == AND || before == OR);
        }

        private boolean mayFollow(int kind) {
            switch (kind) {
                case '+':
                case '-':
                case '*':
                case '/':
                    return true;
                case ')':
                    return parens > 0;
                case '<':
                case '=':
                case '>':
                    return isCondition && parens == 0 && !compared;
                case AND:
                case OR:
                    return isCondition && parens == 0 && compared;
                default:
                    return false;
            }
        }

        /** Takes what stands behind an operand; whether another one is due. */
        private boolean operator(int kind) {
            if (kind == ')') {
                settle(rank(OR));
                waitingCount = Math.max(0, waitingCount - 1);
                parens--;
                goBehind(kind);
                return false;
            }
            settle(rank(kind));
            hold(kind);
            if (kind == AND || kind == OR) {
                compared = false;
                nots = 0;
            } else if (rank(kind) == rank('=')) {
                compared = true;
            }
            goBehind(kind);
            return true;
        }

        private void goBehind(int kind) {
            if (text.fault == 0) {
                before = kind;
                text.step();
            }
        }

        /** How closely an operator holds what it works on; an open ( holds nothing. */
        private static int rank(int kind) {
            switch (kind) {
                case OR:
                    return 1;
                case AND:
                    return 2;
                case NOT:
                    return 3;
                case '<':
                case '=':
                case '>':
                    return 4;
                case '+':
                case '-':
                    return 5;
                case '*':
                case '/':
                    return 6;
                default:
                    return 0;
            }
        }

        private void hold(int kind) {
            if (waitingCount < waiting.length) {
                waiting[waitingCount] = kind;
                waitingCount++;
            }
        }

        /** Puts down what waits and holds as closely as that, or more so. */
        private void settle(int least) {
            for (int i = waitingCount - 1; i >= 0 && rank(waiting[i]) >= least; i--) {
                law.put(-waiting[i]);
                waitingCount = i;
            }
        }
    }

    /** Works out the relief and king lines of a LAW for what is asked. */
    private static final class Reckoner {
        final int[] asked = new int[ASKED_COUNT];
        final int[] stack = new int[64];
        int size;
        int sum;
        boolean kings;

        void reckon(Law law) {
            size = 0;
            sum = 0;
            kings = false;
            for (int i = 0; i < law.codeLength; i++) {
                int item = law.code[i];
                if (item >= 0) {
                    push(item);
                } else {
                    work(-item);
                }
            }
        }

        private void work(int kind) {
            if (kind >= WORTH && kind < WORTH + ASKED_COUNT) {
                push(asked[kind - WORTH]);
            } else if (kind == NOT) {
                push(1 - pop());
            } else if (kind == RELIEF) {
                sum += pop();
            } else if (kind == WHEN) {
                boolean so = pop() != 0;
                int part = pop();
                sum += so ? part : 0;
            } else if (kind == KING) {
                kings = pop() != 0 || kings;
            } else {
                int right = pop();
                int left = pop();
                push(joined(kind, left, right));
            }
        }

        private static int joined(int kind, int left, int right) {
            switch (kind) {
                case '+':
                    return left + right;
                case '-':
                    return left - right;
                case '*':
                    return left * right;
                case '/':
                    return right == 0 ? 0 : left / right;
                case '<':
                    return left < right ? 1 : 0;
                case '=':
                    return left == right ? 1 : 0;
                case '>':
                    return left > right ? 1 : 0;
                case AND:
                    return left & right;
                default:
                    return left | right;
            }
        }

        private void push(int value) {
            if (size < stack.length) {
                stack[size] = value;
                size++;
            }
        }

        private int pop() {
            if (size <= 0) {
                return 0;
            }
            size--;
            return stack[size];
        }
    }

    /** The LINES of all PEOPLE on the DAY of a death, and how much of them is one person's. */
    private static final class Descent {
        /* The row behind all PEOPLE's: what the dead one leaves. */
        static final int ESTATE = People.LIMIT;

        final People people;
        int day;
        int custom;
        int men;
        /* Of each one: who is in its LINE, and the children by whom it goes on (none if it is ALIVE), as sets. */
        final int[] line = new int[People.LIMIT + 1];
        final int[] stock = new int[People.LIMIT + 1];
        final long[] above = new long[People.LIMIT + 1];
        final long[] below = new long[People.LIMIT + 1];

        Descent(People itsPeople) {
            people = itsPeople;
        }

        int heirSet() {
            return line[ESTATE];
        }

        int firstHeir() {
            for (int p = 0; p < people.count; p++) {
                if ((line[ESTATE] & 1 << p) != 0) {
                    return p;
                }
            }
            return NONE;
        }

        long partAbove() {
            return above[ESTATE];
        }

        long partBelow() {
            return below[ESTATE];
        }

        void lay(int dead, int deathDay, int itsCustom) {
            day = deathDay;
            custom = itsCustom;
            men = 0;
            // Children have greater numbers than their parents, so their LINES are there first.
            for (int p = people.count - 1; p >= 0; p--) {
                men |= people.sex[p] == 0 ? 1 << p : 0;
                boolean alive = people.isAlive(p, day);
                stock[p] = alive ? 0 : stockOf(p, NONE);
                line[p] = alive ? 1 << p : lineThrough(stock[p]);
            }
            stock[ESTATE] = stockNearest(dead);
            line[ESTATE] = lineThrough(stock[ESTATE]);
        }

        private int stockNearest(int dead) {
            int found = stockOf(dead, NONE);
            int from = dead;
            for (int n = 0; n < People.LIMIT && found == 0 && people.father[from] != NONE; n++) {
                int father = people.father[from];
                found = stockOf(father, from);
                from = father;
            }
            return found;
        }

        /** The children whose LINES are not empty, one left out: the sons, or else the daughters. */
        private int stockOf(int parent, int leftOut) {
            int children = 0;
            for (int c = parent + 1; c < people.count; c++) {
                boolean child = people.father[c] == parent || people.mother[c] == parent;
                if (child && c != leftOut && people.low[c] <= day && line[c] != 0) {
                    children |= 1 << c;
                }
            }
            return (children & men) != 0 ? children & men : children;
        }

        private boolean oneTakesAll(int set) {
            return custom != ALL_CUSTOM && (set & men) != 0;
        }

        private int lineThrough(int set) {
            if (oneTakesAll(set)) {
                return line[chosen(set)];
            }
            int whole = 0;
            for (int p = 0; p < people.count; p++) {
                whole |= (set & 1 << p) != 0 ? line[p] : 0;
            }
            return whole;
        }

        private int chosen(int set) {
            int found = NONE;
            for (int p = 0; p < people.count; p++) {
                if ((set & 1 << p) != 0 && (found == NONE || people.isOlder(p, found) == (custom == ELDEST_CUSTOM))) {
                    found = p;
                }
            }
            return Math.max(0, found);
        }

        /** Reckons q's part of all LINES and of what the dead one leaves. */
        void part(int q, int how) {
            for (int p = people.count - 1; p >= 0; p--) {
                partOf(p, q, how);
            }
            partOf(ESTATE, q, how);
        }

        private void partOf(int p, int q, int how) {
            int set = stock[p];
            above[p] = set == 0 && line[p] == 1 << q ? 1 : 0;
            below[p] = 1;
            if (oneTakesAll(set)) {
                int from = how == SHARE_AS_BORN ? chosen(set) : boundary(set, how);
                above[p] = above[from];
                below[p] = below[from];
            } else if (set != 0) {
                addParts(p, set);
            }
        }

        private void addParts(int p, int set) {
            for (int c = 0; c < people.count; c++) {
                if ((set & 1 << c) != 0 && above[c] != 0) {
                    long common = commonPart(below[p], below[c]);
                    above[p] = above[p] * (below[c] / common) + above[c] * (below[p] / common);
                    below[p] = below[p] / common * below[c];
                }
            }
            below[p] *= Integer.bitCount(set);
            long common = commonPart(above[p], below[p]);
            above[p] /= common;
            below[p] /= common;
        }

        /** Of the sons that may be the one chosen, by their spans, one with the least part, or the greatest. */
        private int boundary(int set, int how) {
            int found = NONE;
            for (int p = 0; p < people.count; p++) {
                if ((set & 1 << p) != 0 && mayBeChosen(p, set)) {
                    boolean better = found == NONE || (how == SHARE_MOST ? isLess(found, p) : isLess(p, found));
                    found = better ? p : found;
                }
            }
            return Math.max(0, found);
        }

        private boolean mayBeChosen(int p, int set) {
            for (int other = 0; other < people.count; other++) {
                if ((set & 1 << other) != 0 && other != p) {
                    boolean may = custom == ELDEST_CUSTOM
                            ? people.low[p] <= people.high[other]
                            : people.high[p] >= people.low[other];
                    if (!may) {
                        return false;
                    }
                }
            }
            return true;
        }

        private boolean isLess(int p, int q) {
            long common = commonPart(below[p], below[q]);
            return above[p] * (below[q] / common) < above[q] * (below[p] / common);
        }

        /** The greatest number that divides both, 1 at least. */
        private static long commonPart(long a, long b) {
            long greater = a;
            long lesser = b;
            for (int n = 0; n < 200 && lesser != 0; n++) {
                long rest = greater % lesser;
                greater = lesser;
                lesser = rest;
            }
            return Math.max(1, greater);
        }
    }

    /** The SEIZINGS, a row each. */
    private static final class Seizings {
        static final int LIMIT = 100;

        final int[] land = new int[LIMIT];
        final int[] taker = new int[LIMIT];
        final int[] from = new int[LIMIT];
        final int[] told = new int[LIMIT];
        final int[] hangsOn = new int[LIMIT];
        final int[] voidSince = new int[LIMIT];
        int count;

        int add(int l, int holder, int day, int hangs, int now) {
            if (count >= LIMIT) {
                return NONE;
            }
            land[count] = l;
            taker[count] = holder;
            from[count] = day;
            told[count] = now;
            hangsOn[count] = hangs;
            voidSince[count] = NONE;
            count++;
            return count - 1;
        }

        boolean has(int e) {
            return e >= 0 && e < count;
        }

        boolean stands(int e) {
            return has(e) && voidSince[e] == NONE;
        }

        int undo(int e, int now) {
            voidSince[e] = now;
            int undone = 1;
            // What is VOID already has nothing standing on it, so one way up is enough.
            for (int later = e + 1; later < count; later++) {
                int on = hangsOn[later];
                if (voidSince[later] == NONE && on != NONE && voidSince[on] != NONE) {
                    voidSince[later] = now;
                    undone++;
                }
            }
            return undone;
        }

        int tellOf(int e, int what) {
            switch (what) {
                case 0:
                    return land[e];
                case 1:
                    return taker[e];
                case 2:
                    return from[e];
                case 3:
                    return told[e];
                case 4:
                    return hangsOn[e];
                case 5:
                    return voidSince[e];
                default:
                    return NO_ANSWER;
            }
        }

        int holderAt(int l, int day, int known) {
            int best = NONE;
            for (int e = 0; e < count; e++) {
                boolean stood = told[e] <= known && (voidSince[e] == NONE || voidSince[e] > known);
                if (land[e] == l && stood && from[e] <= day && (best == NONE || from[e] >= from[best])) {
                    best = e;
                }
            }
            return best == NONE ? NOBODY : taker[best];
        }
    }

    /** EVENTS, the MEMORIES of each one's birth, and the latest PROOF. */
    private static final class Remembered {
        static final int EVENTS = 16;
        static final int EACH = 24;
        /* Farther than any DAY is from any other. */
        static final int FAR = 30000;

        final int[] eventDay = new int[EVENTS];
        final int[] count = new int[People.LIMIT];
        /* A MEMORY says: BORN from so many DAYS behind its EVENT (below 0: ahead) up to so many. */
        final int[] event = new int[People.LIMIT * EACH];
        final int[] since = new int[People.LIMIT * EACH];
        final int[] until = new int[People.LIMIT * EACH];
        int first;
        int last;
        int most;
        boolean sure;

        Remembered() {
            Arrays.fill(eventDay, NONE);
        }

        boolean hasEvent(int e) {
            return e >= 0 && e < EVENTS && eventDay[e] != NONE;
        }

        void put(int p, int m, int itsEvent, int itsSince, int itsUntil) {
            int at = p * EACH + m;
            event[at] = itsEvent;
            since[at] = itsSince;
            until[at] = itsUntil;
        }

        private int lowOf(int p, int m) {
            int at = p * EACH + m;
            return eventDay[event[at]] + since[at];
        }

        private int highOf(int p, int m) {
            int at = p * EACH + m;
            return eventDay[event[at]] + until[at];
        }

        private boolean agrees(int p, int m, int day) {
            return lowOf(p, m) <= day && day <= highOf(p, m);
        }

        private int agreeing(int p, int day) {
            int found = 0;
            for (int m = 0; m < count[p]; m++) {
                found += agrees(p, m, day) ? 1 : 0;
            }
            return found;
        }

        /* How many agree rises only where a MEMORY's span begins, and falls only behind its end: no other DAY is looked at. */

        void prove(int p) {
            first = 0;
            most = agreeing(p, 0);
            for (int m = 0; m < count[p]; m++) {
                int day = lowOf(p, m);
                int found = isDay(day) ? agreeing(p, day) : NONE;
                if (found > most || (found == most && day < first)) {
                    most = found;
                    first = day;
                }
            }
            last = lastOf(p);
            sure = most > 0 && isUnbroken(p);
        }

        private int lastOf(int p) {
            if (agreeing(p, LAST_DAY) == most) {
                return LAST_DAY;
            }
            int found = first;
            for (int m = 0; m < count[p]; m++) {
                int day = highOf(p, m);
                if (isDay(day) && day > found && agreeing(p, day) == most) {
                    found = day;
                }
            }
            return found;
        }

        private boolean isUnbroken(int p) {
            for (int m = 0; m < count[p]; m++) {
                int behind = highOf(p, m) + 1;
                if (behind > first && behind <= last && agreeing(p, behind) != most) {
                    return false;
                }
            }
            return true;
        }

        int doubted(int p) {
            int set = 0;
            for (int m = 0; m < count[p]; m++) {
                set |= agrees(p, m, first) ? 0 : 1 << m;
            }
            return set;
        }
    }

    /** Reads a TEXT as MEMORIES. */
    private static final class MemoryReader {
        final Text text;
        final Remembered remembered;

        MemoryReader(Text itsText, Remembered itsRemembered) {
            text = itsText;
            remembered = itsRemembered;
        }

        int read(int p) {
            int had = remembered.count[p];
            int came = 0;
            for (int n = 0; n <= Text.LIMIT && text.fault == 0 && (n == 0 || text.kind() != END); n++) {
                memory(p, had + n);
                came++;
            }
            if (text.fault != 0) {
                return NONE;
            }
            remembered.count[p] = had + came;
            return came;
        }

        private void memory(int p, int m) {
            int kind = text.kind();
            if (kind != NUMBER && kind != BEFORE && kind != AFTER) {
                text.fail(CANT_STAND);
            } else if (m >= Remembered.EACH) {
                text.fail(TOO_MANY);
            } else if (kind == NUMBER) {
                counted(p, m);
                text.take(';');
            } else {
                text.step();
                int event = takeEvent();
                boolean ahead = kind == BEFORE;
                remembered.put(p, m, event, ahead ? -Remembered.FAR : 1, ahead ? -1 : Remembered.FAR);
                text.take(';');
            }
        }

        private void counted(int p, int m) {
            int number = text.takeNumber(MOST_NUMBER);
            if (text.takeIf(YEARS)) {
                text.take(AT);
                int event = takeEvent();
                text.take(OFF);
                int off = text.takeNumber(MOST_NUMBER);
                remembered.put(p, m, event, -number * YEAR - off, -number * YEAR + off);
            } else {
                text.take(DAYS);
                int shift = text.takeOneOf(BEFORE, 2) == 0 ? -number : number;
                remembered.put(p, m, takeEvent(), shift, shift);
            }
        }

        private int takeEvent() {
            int event = text.value();
            if (text.kind() == NUMBER && !remembered.hasEvent(event)) {
                text.fail(WRONG_NUMBER);
            }
            text.take(NUMBER);
            return text.fault == 0 ? event : 0;
        }
    }

    /** What JURIES found, and the FEWEST to doubt. */
    private static final class Juries {
        static final int LIMIT = 10;
        static final int UNSAID = NONE - 1;

        final int[] words = new int[LIMIT * Lands.LIMIT];
        final int[] against = new int[LIMIT];
        /* Of which each LAND is held by the words of those that are not doubted. */
        final int[] heldOf = new int[Lands.LIMIT];
        int fewest;
        boolean weighed;

        Juries() {
            Arrays.fill(words, UNSAID);
        }

        static boolean has(int j) {
            return j >= 0 && j < LIMIT;
        }

        void say(int j, int l, int word) {
            words[j * Lands.LIMIT + l] = word;
            weighed = false;
        }

        boolean hasSaid(int j, int l) {
            return words[j * Lands.LIMIT + l] != UNSAID;
        }

        void weigh() {
            if (weighed) {
                return;
            }
            setAgainst();
            int all = (1 << LIMIT) - 1;
            fewest = all;
            for (int doubted = 0; doubted < all; doubted++) {
                boolean fewer = Integer.bitCount(doubted) < Integer.bitCount(fewest);
                if (fewer && isAtPeace(all & ~doubted)) {
                    fewest = doubted;
                }
            }
            layHeld(all & ~fewest);
            weighed = true;
        }

        private void setAgainst() {
            for (int j = 0; j < LIMIT; j++) {
                against[j] = 0;
                for (int k = 0; k < LIMIT; k++) {
                    against[j] |= areUnlike(j, k) ? 1 << k : 0;
                }
            }
        }

        private boolean areUnlike(int j, int k) {
            for (int l = 0; l < Lands.LIMIT; l++) {
                int one = words[j * Lands.LIMIT + l];
                int other = words[k * Lands.LIMIT + l];
                if (one != UNSAID && other != UNSAID && one != other) {
                    return true;
                }
            }
            return false;
        }

        private boolean isAtPeace(int rest) {
            for (int j = 0; j < LIMIT; j++) {
                if ((rest & 1 << j) != 0 && (against[j] & rest) != 0) {
                    return false;
                }
            }
            layHeld(rest);
            for (int l = 0; l < Lands.LIMIT; l++) {
                // A way of as many steps as there are LANDS without an end comes to a LAND twice.
                if (above(l, Lands.LIMIT - 1) != NONE) {
                    return false;
                }
            }
            return true;
        }

        private void layHeld(int rest) {
            Arrays.fill(heldOf, NONE);
            for (int j = 0; j < LIMIT; j++) {
                for (int l = 0; l < Lands.LIMIT && (rest & 1 << j) != 0; l++) {
                    int word = words[j * Lands.LIMIT + l];
                    heldOf[l] = word == UNSAID ? heldOf[l] : word;
                }
            }
        }

        int above(int l, int i) {
            int at = heldOf[l];
            for (int n = 0; n < Lands.LIMIT && n < i && at != NONE; n++) {
                at = heldOf[at];
            }
            return at;
        }
    }
}
