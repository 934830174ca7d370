/**
 * ==== 3 and promises 17, 18 at their edges; above each test stands the sentence that it holds to. Lands 0, 1, 2 go
 * to the eldest, the youngest, all.
 */
public final class HeirsEdgesTest {
    private static final int DEATH = 8000;
    private static final int MAX = Integer.MAX_VALUE;
    private static final int MIN = Integer.MIN_VALUE;

    public static void main(String[] args) {
        aliveItAlone();
        aliveOnADay();
        bornByThatDay();
        fatherOrMother();
        emptyLines();
        older();
        likeParts();
        withoutAnySon();
        theFathersChildren();
        andSoOnUp();
        goneUpFrom();
        escheat();
        bothParts();
        withoutACommonPart();
        mayBeEldest();
        mayBeYoungest();
        notEmptyOnes();
        leastAndMost();
        lawOfTheDay();
        refusals();
        Due.end();
    }

    /** Man 0 is there, and dies by end(). */
    private static InquestHall hall() {
        InquestHall x = Due.hallOn(9999);
        Due.law(x, 0, "heirs youngest in 1;heirs all in 2;");
        for (int s = 0; s < 3; s++) {
            x.land(s, 0, -1);
        }
        x.person(0, -1, -1, 0, 0);
        return x;
    }

    private static int son(InquestHall x, int father, int low, int high) {
        return x.person(0, father, -1, low, high);
    }

    private static int daughter(InquestHall x, int father, int low, int high) {
        return x.person(1, father, -1, low, high);
    }

    private static void share(InquestHall x, int l, int q, long... due) {
        for (int i = 0; i < due.length; i++) {
            Due.is("share(0, " + l + ", " + q + ", " + i + ")", x.share(0, l, q, i), due[i]);
        }
    }

    /** Those have the whole of lands 0, 1, 2; nobody else has a part. */
    private static void whole(InquestHall x, int eldest, int youngest) {
        share(x, 0, eldest, 1, 1);
        share(x, 1, youngest, 1, 1);
        Due.is("one by eldest", x.heirs(0, 0), 1);
        Due.is("one by youngest", x.heirs(0, 1), 1);
    }

    /** "if ALIVE it alone, with the whole". */
    private static void aliveItAlone() {
        InquestHall x = hall();
        son(x, 0, 1000, 1000);
        son(x, 1, 3000, 3000);
        x.dies(0, DEATH);
        for (int l = 0; l < 3; l++) {
            Due.is("heirs(0, " + l + ")", x.heirs(0, l), 1);
            share(x, l, 1, 1, 1, 1, 1, 1, 1);
            share(x, l, 2, 0, 1, 0, 1, 0, 1);
            share(x, l, 0, 0, 1, 0, 1, 0, 1);
        }
    }

    /** "ALIVE on a DAY is who has not DIED by it (that DAY counts as dead)". */
    private static void aliveOnADay() {
        for (int day = DEATH - 1; day <= DEATH + 1; day++) {
            InquestHall x = hall();
            son(x, 0, 1000, 1000);
            son(x, 1, 3000, 3000);
            x.dies(1, day);
            x.dies(0, DEATH);
            share(x, 0, 1, day > DEATH ? 1 : 0);
            share(x, 0, 2, day > DEATH ? 0 : 1);
        }
        InquestHall y = hall();
        son(y, 0, 0, 0);
        y.dies(0, 0);
        share(y, 0, 1, 1, 1);
        InquestHall z = hall();
        son(z, 0, 0, 0);
        z.dies(1, 0);
        z.dies(0, 0);
        Due.is("dead on DAY 0", z.heirs(0, 0), 0);
    }

    /** "that were BORN, low, by that DAY": on it, not behind it. */
    private static void bornByThatDay() {
        for (int low = DEATH - 1; low <= DEATH + 1; low++) {
            InquestHall x = hall();
            son(x, 0, low, low + 100);
            x.dies(0, DEATH);
            Due.is("BORN on " + low, x.heirs(0, 0), low <= DEATH ? 1 : 0);
            InquestHall y = hall();
            son(y, 0, 1000, 1000);
            daughter(y, 1, low, low);
            y.dies(1, 1000);
            y.dies(0, DEATH);
            Due.is("a child's child BORN on " + low, y.heirs(0, 2), low <= DEATH ? 1 : 0);
            // one not BORN by then neither has nor hands on, though its child were BORN by then
            InquestHall z = hall();
            son(z, 0, low, low);
            son(z, 1, 1000, 1000);
            z.dies(0, DEATH);
            share(z, 0, 1, low <= DEATH ? 1 : 0);
            share(z, 0, 2, 0);
            Due.is("its child alone", z.heirs(0, 0), low <= DEATH ? 1 : 0);
        }
    }

    /** "the children it is FATHER or MOTHER of". */
    private static void fatherOrMother() {
        InquestHall x = Due.hallOn(9999);
        x.land(0, 0, -1);
        x.person(1, -1, -1, 0, 0);
        x.person(0, -1, -1, 0, 0);
        x.person(0, 1, 0, 1000, 1000);
        x.person(0, 1, -1, 900, 900);
        x.person(0, -1, 0, 1100, 1100);
        x.dies(0, DEATH);
        x.dies(1, DEATH);
        share(x, 0, 2, 1, 1);
        Due.is("the man's", x.share(1, 0, 3, 0), 1);
        x.dies(2, DEATH);
        share(x, 0, 4, 1, 1);
        x.dies(4, DEATH);
        Due.is("the husband is none of hers", x.heirs(0, 0), 0);
    }

    /** "sons whose LINES are not empty": a dead son is in place by what he left, and out without it. */
    private static void emptyLines() {
        InquestHall x = hall();
        son(x, 0, 1000, 1000);
        son(x, 0, 1100, 1100);
        son(x, 0, 1200, 1200);
        x.dies(1, 5000);
        x.dies(3, 5000);
        x.dies(0, DEATH);
        whole(x, 2, 2);
        share(x, 2, 2, 1, 1);
        int first = daughter(x, 1, 3000, 3000);
        int last = daughter(x, 3, 3000, 3000);
        whole(x, first, last);
        share(x, 2, first, 1, 3);
        x.dies(first, 6000);
        whole(x, 2, last);
        x.dies(last, 6000);
        x.dies(2, 6000);
        for (int l = 0; l < 3; l++) {
            Due.is("all are empty", x.heirs(0, l), 0);
        }
    }

    /** "OLDER is who is BORN by the lesser low, of like ones by the lesser high, of like ones by the lesser number". */
    private static void older() {
        int[][] spans = {{1000, 1500, 999, 2000}, {1000, 1500, 1000, 1499}, {1000, 1500, 1000, 1500}, {1000, 1500, 1000, 1501},
            {1000, 1500, 1001, 1001}, {1000, 1500, 1000, 1000}, {1000, 1000, 1000, 1500}, {1000, 1000, 1000, 1000}};
        int[] eldest = {2, 2, 1, 1, 1, 2, 1, 1};
        for (int i = 0; i < spans.length; i++) {
            InquestHall x = hall();
            son(x, 0, spans[i][0], spans[i][1]);
            son(x, 0, spans[i][2], spans[i][3]);
            x.dies(0, DEATH);
            whole(x, eldest[i], 3 - eldest[i]);
        }
        InquestHall y = hall();
        for (int n = 0; n < 4; n++) {
            son(y, 0, 1000, 1500);
        }
        y.dies(0, DEATH);
        whole(y, 1, 4);
        y.born(2, 1000, 1499);
        y.born(3, 1000, 1501);
        whole(y, 2, 3);
        y.born(4, 1000, 1499);
        y.born(1, 1000, 1501);
        whole(y, 2, 3);
    }

    /** "all: each son's with a like part", of two up to five, and parts of parts. */
    private static void likeParts() {
        InquestHall x = hall();
        for (int n = 1; n <= 5; n++) {
            son(x, 0, 1000, 1000);
        }
        daughter(x, 0, 900, 900);
        x.dies(0, DEATH);
        share(x, 2, 5, 1, 5, 1, 5, 1, 5);
        share(x, 2, 6, 0, 1, 0, 1, 0, 1);
        son(x, 5, 3000, 3000);
        son(x, 5, 3000, 3000);
        x.dies(5, 5000);
        share(x, 2, 1, 1, 5);
        share(x, 2, 8, 1, 10, 1, 10, 1, 10);
        Due.is("heirs(0, 2)", x.heirs(0, 2), 6);
    }

    /** "Without any such son all daughters whose LINES are not empty, each with a like part", by each custom. */
    private static void withoutAnySon() {
        InquestHall x = hall();
        son(x, 0, 1000, 1000);
        daughter(x, 0, 1000, 1000);
        daughter(x, 0, 1100, 1100);
        daughter(x, 0, 1200, 1200);
        x.dies(1, 5000);
        x.dies(3, 5000);
        x.dies(0, DEATH);
        for (int l = 0; l < 3; l++) {
            Due.is("heirs(0, " + l + ")", x.heirs(0, l), 2);
            share(x, l, 2, 1, 2, 1, 2, 1, 2);
            share(x, l, 3, 0, 1, 0, 1, 0, 1);
            share(x, l, 4, 1, 2, 1, 2, 1, 2);
        }
        // her sons by the custom of the place
        int first = x.person(0, -1, 3, 3000, 3000);
        int second = x.person(0, -1, 3, 3100, 3100);
        share(x, 0, first, 1, 3);
        share(x, 1, second, 1, 3);
        share(x, 2, first, 1, 6);
        share(x, 2, 2, 1, 3);
        x.dies(2, DEATH);
        share(x, 0, 4, 1, 2);
    }

    /** "if it is empty those of the FATHER's CHILDREN (the dead one left out)". */
    private static void theFathersChildren() {
        InquestHall x = hall();
        x.person(1, -1, -1, 0, 0);
        x.person(0, 0, 1, 1000, 1000);
        x.person(1, 0, 1, 900, 900);
        x.person(0, 0, -1, 1100, 1100);
        x.person(0, -1, 1, 1050, 1050);
        x.dies(2, DEATH);
        // his brother by the father is ahead of his sister; the mother's other son never comes
        Due.is("heirs(2, 0)", x.heirs(2, 0), 1);
        Due.is("share(2, 0, 4, 0)", x.share(2, 0, 4, 0), 1);
        x.dies(4, DEATH);
        Due.is("share(2, 0, 3, 0)", x.share(2, 0, 3, 0), 1);
        x.dies(3, DEATH);
        Due.is("heirs(2, 0)", x.heirs(2, 0), 0);
        // his own child is ahead of all these
        x.person(1, 2, -1, 5000, 5000);
        Due.is("share(2, 0, 6, 0)", x.share(2, 0, 6, 0), 1);
    }

    /** "then those of the FATHER's FATHER's, and so on up": from each generation to the one ahead, as far as can be. */
    private static void andSoOnUp() {
        InquestHall x = Due.hallOn(9999);
        x.land(0, 0, -1);
        x.person(0, -1, -1, 0, 0);
        x.person(1, 0, -1, 10, 10);
        for (int p = 2; p < 32; p++) {
            x.person(0, p == 2 ? 0 : p - 1, -1, 10 * p, 10 * p);
        }
        for (int p = 2; p < 32; p++) {
            x.dies(p, DEATH);
        }
        Due.is("thirty up: heirs", x.heirs(31, 0), 1);
        Due.is("thirty up: share", x.share(31, 0, 1, 0), 1);
        x.dies(1, DEATH);
        Due.is("none there", x.heirs(31, 0), 0);
        InquestHall y = hall();
        son(y, 0, 1000, 1000);
        son(y, 1, 2000, 2000);
        int aunt = daughter(y, 0, 1100, 1100);
        y.dies(2, DEATH);
        Due.is("the father's sister", y.share(2, 0, aunt, 0), 1);
        int brother = daughter(y, 1, 2100, 2100);
        Due.is("the nearer ones first", y.share(2, 0, brother, 0), 1);
        Due.is("the farther ones not", y.share(2, 0, aunt, 0), 0);
    }

    /** "one that is gone up from is left out too, its LINE was empty": a father that lives is not his son's heir. */
    private static void goneUpFrom() {
        InquestHall x = hall();
        son(x, 0, 1000, 1000);
        son(x, 0, 1100, 1100);
        son(x, 1, 2000, 2000);
        x.dies(3, DEATH);
        for (int l = 0; l < 3; l++) {
            Due.is("heirs(3, " + l + ")", x.heirs(3, l), 1);
            Due.is("the father's brother", x.share(3, l, 2, 0), 1);
            Due.is("not the father", x.share(3, l, 1, 4), 0);
            Due.is("nor his father", x.share(3, l, 0, 4), 0);
        }
        x.dies(2, DEATH);
        Due.is("though all that live are these", x.heirs(3, 0), 0);
    }

    /** "Then the land goes to the LORD: ESCHEAT", "(0: ESCHEAT.)", "0, 1 without one". */
    private static void escheat() {
        InquestHall x = hall();
        x.person(1, -1, -1, 0, 0);
        x.marry(0, 1);
        x.dies(0, DEATH);
        for (int l = 0; l < 3; l++) {
            Due.is("heirs(0, " + l + ")", x.heirs(0, l), 0);
            share(x, l, 0, 0, 1, 0, 1, 0, 1);
            share(x, l, 1, 0, 1, 0, 1, 0, 1);
            Due.is("ward", x.ward(0, l, 1, 0), -2);
            Due.is("relief", x.relief(0, l, 1), -1);
        }
    }

    /** "who comes twice has both parts". */
    private static void bothParts() {
        InquestHall x = hall();
        daughter(x, 0, 1000, 1000);
        daughter(x, 0, 1100, 1100);
        daughter(x, 0, 1200, 1200);
        x.person(0, -1, 1, 2000, 2000);
        x.person(1, -1, 2, 2000, 2000);
        x.person(1, 4, 5, 3000, 3000);
        x.person(1, -1, 5, 3000, 3000);
        for (int p : new int[] {1, 2, 4, 5}) {
            x.dies(p, 5000);
        }
        x.dies(0, DEATH);
        for (int l = 0; l < 3; l++) {
            Due.is("heirs(0, " + l + ")", x.heirs(0, l), 3);
            share(x, l, 6, 1, 2, 1, 2, 1, 2);
            share(x, l, 7, 1, 6, 1, 6, 1, 6);
            share(x, l, 3, 1, 3, 1, 3, 1, 3);
        }
        // a child of father and daughter comes once by each of them
        InquestHall y = hall();
        daughter(y, 0, 1000, 1000);
        y.person(1, 0, 1, 2000, 2000);
        daughter(y, 0, 1100, 1100);
        y.dies(1, 5000);
        y.dies(0, DEATH);
        Due.is("heirs", y.heirs(0, 0), 2);
        share(y, 0, 2, 2, 3);
        share(y, 0, 3, 1, 3);
    }

    /** "above, below .. without a common part". */
    private static void withoutACommonPart() {
        InquestHall x = hall();
        for (int n = 0; n < 4; n++) {
            daughter(x, 0, 1000, 1000);
        }
        x.person(0, -1, 1, 2000, 2000);
        x.person(1, 5, 2, 3000, 3000);
        for (int p : new int[] {1, 2, 5}) {
            x.dies(p, 5000);
        }
        x.dies(0, DEATH);
        share(x, 0, 6, 1, 2);
        x.dies(3, 5000);
        share(x, 0, 6, 2, 3);
        x.dies(4, 5000);
        share(x, 0, 6, 1, 1);
    }

    /** "by spans any son may be the eldest whose low is at most every other son's high". */
    private static void mayBeEldest() {
        for (int high = 1999; high <= 2001; high++) {
            InquestHall x = hall();
            son(x, 0, 1000, high);
            son(x, 0, 2000, 3000);
            x.dies(0, DEATH);
            share(x, 0, 1, 1, 1, high < 2000 ? 1 : 0, 1, 1, 1);
            share(x, 0, 2, 0, 1, 0, 1, high < 2000 ? 0 : 1, 1);
        }
        InquestHall y = hall();
        son(y, 0, 1000, 1000);
        son(y, 0, 1000, 1000);
        son(y, 0, 500, 1200);
        y.dies(0, DEATH);
        // like ones may both be, for all that the lesser number is OLDER
        share(y, 0, 1, 0, 1, 0, 1, 1, 1);
        share(y, 0, 2, 0, 1, 0, 1, 1, 1);
        share(y, 0, 3, 1, 1, 0, 1, 1, 1);
        y.born(3, 500, 999);
        share(y, 0, 1, 0, 1, 0, 1, 0, 1);
        share(y, 0, 3, 1, 1, 1, 1, 1, 1);
        // every other son, not one of them
        y.born(1, 900, 950);
        y.born(2, 960, 1000);
        share(y, 0, 1, 0, 1, 0, 1, 1, 1);
        share(y, 0, 2, 0, 1, 0, 1, 0, 1);
    }

    /** "(youngest: whose high is at least every other son's low)". */
    private static void mayBeYoungest() {
        for (int high = 1999; high <= 2001; high++) {
            InquestHall x = hall();
            son(x, 0, 1000, high);
            son(x, 0, 2000, 3000);
            x.dies(0, DEATH);
            share(x, 1, 1, 0, 1, 0, 1, high < 2000 ? 0 : 1, 1);
            share(x, 1, 2, 1, 1, high < 2000 ? 1 : 0, 1, 1, 1);
        }
        InquestHall y = hall();
        son(y, 0, 1000, 1000);
        y.dies(0, DEATH);
        share(y, 1, 1, 1, 1, 1, 1, 1, 1);
        son(y, 0, 900, 1000);
        share(y, 1, 1, 1, 1, 0, 1, 1, 1);
        share(y, 1, 2, 0, 1, 0, 1, 1, 1);
    }

    /** ".., of sons whose LINES are not empty." */
    private static void notEmptyOnes() {
        InquestHall x = hall();
        son(x, 0, 1000, 1100);
        son(x, 0, 1100, 1200);
        son(x, 0, 1050, 1150);
        x.dies(0, DEATH);
        share(x, 0, 3, 0, 1, 0, 1, 1, 1);
        share(x, 1, 3, 0, 1, 0, 1, 1, 1);
        x.dies(1, 5000);
        x.dies(2, 5000);
        share(x, 0, 3, 1, 1, 1, 1, 1, 1);
        share(x, 1, 3, 1, 1, 1, 1, 1, 1);
        share(x, 0, 1, 0, 1, 0, 1, 0, 1);
    }

    /** "the least part of it in LINES of all that may be; MOST: the greatest part. (All else as told.)" */
    private static void leastAndMost() {
        InquestHall x = hall();
        son(x, 0, 1000, 1500);
        son(x, 0, 1200, 1500);
        int a = daughter(x, 1, 3000, 3000);
        daughter(x, 1, 3000, 3000);
        int both = x.person(1, 2, a, 4000, 4000);
        daughter(x, 2, 4000, 4000);
        daughter(x, 2, 4000, 4000);
        x.dies(1, 5000);
        x.dies(2, 5000);
        x.dies(a, 5000);
        x.dies(0, DEATH);
        share(x, 0, both, 1, 2, 1, 3, 1, 2);
        share(x, 1, both, 1, 3, 1, 3, 1, 2);
        share(x, 2, both, 5, 12, 5, 12, 5, 12);
        // what is uncertain twice: the son's son, within one of two daughters' parts
        InquestHall y = hall();
        daughter(y, 0, 1000, 1000);
        daughter(y, 0, 1000, 1000);
        y.person(0, -1, 1, 2000, 2500);
        y.person(0, -1, 1, 2500, 2600);
        son(y, 3, 4000, 4500);
        son(y, 3, 4500, 4600);
        y.dies(1, 5000);
        y.dies(3, 5000);
        y.dies(0, DEATH);
        share(y, 0, 5, 1, 2, 0, 1, 1, 2);
        share(y, 0, 6, 0, 1, 0, 1, 1, 2);
        share(y, 0, 4, 0, 1, 0, 1, 1, 2);
        share(y, 0, 2, 1, 2, 1, 2, 1, 2);
        share(y, 2, 5, 1, 8, 1, 8, 1, 8);
    }

    /** "by the LAW on the DAY of death", that of the SHIRE of the LAND. */
    private static void lawOfTheDay() {
        for (int day = DEATH - 1; day <= DEATH + 1; day++) {
            InquestHall x = hall();
            x.reign(DEATH);
            Due.law(x, 1, "heirs youngest;heirs eldest in 1;");
            son(x, 0, 1000, 1000);
            son(x, 0, 1100, 1100);
            x.dies(0, day);
            share(x, 0, 1, day < DEATH ? 1 : 0);
            share(x, 1, 1, day < DEATH ? 0 : 1);
            share(x, 2, 1, day < DEATH ? 1 : 0, day < DEATH ? 2 : 1);
        }
    }

    /** "NONE: p lives, or one can't be"; "NONE if one can't be". */
    private static void refusals() {
        InquestHall x = hall();
        son(x, 0, 1000, 1000);
        Due.is("p lives", x.heirs(0, 0), -1);
        share(x, 0, 1, -1, -1, -1, -1, -1, -1);
        x.dies(0, DEATH);
        for (int wrong : new int[] {-2, -1, 3, MAX, MIN}) {
            Due.is("heirs(" + wrong + ", 0)", x.heirs(wrong, 0), -1);
            Due.is("heirs(0, " + wrong + ")", x.heirs(0, wrong), -1);
            Due.is("share(" + wrong + ", 0, 1, 0)", x.share(wrong, 0, 1, 0), -1);
            Due.is("share(0, " + wrong + ", 1, 0)", x.share(0, wrong, 1, 0), -1);
            Due.is("share(0, 0, " + wrong + ", 0)", x.share(0, 0, wrong, 0), -1);
        }
        for (int what : new int[] {-1, 6, 7, MAX, MIN}) {
            Due.is("share(0, 0, 1, " + what + ")", x.share(0, 0, 1, what), -1);
        }
        Due.is("share(1, 0, 1, 0), who lives", x.share(1, 0, 1, 0), -1);
        Due.is("share(0, 0, 2, 0), nobody yet", x.share(0, 0, 2, 0), -1);
    }
}
