import java.nio.charset.StandardCharsets;

/** What the project's tests share: counting answers that are not as due, and putting a text on the TAPE. */
final class Due {
    private static int asked = 0;
    private static int wrong = 0;

    private Due() {
    }

    static void is(String call, long got, long want) {
        asked++;
        if (got != want) {
            wrong++;
            System.out.println(call + " answered " + got + ", due is " + want);
        }
    }

    static void yes(String call, boolean got) {
        is(call, got ? 1 : 0, 1);
    }

    static void no(String call, boolean got) {
        is(call, got ? 1 : 0, 0);
    }

    static void end() {
        System.out.println(asked + " answers, " + wrong + " not as due");
        if (wrong != 0 || asked == 0) {
            System.exit(1);
        }
    }

    /** Puts a text on the TAPE that is empty. */
    static void tape(InquestHall hall, String text) {
        byte[] bytes = text.getBytes(StandardCharsets.ISO_8859_1);
        int[] five = new int[5];
        for (int from = 0; from < bytes.length; from += 20) {
            for (int w = 0; w < 5; w++) {
                five[w] = 0;
                for (int b = 0; b < 4; b++) {
                    int at = from + 4 * w + b;
                    five[w] = five[w] << 8 | (at < bytes.length ? bytes[at] & 255 : ' ');
                }
            }
            hall.feed(five[0], five[1], five[2], five[3], five[4]);
        }
        hall.end(bytes.length);
    }

    static int law(InquestHall hall, int r, String text) {
        tape(hall, text);
        return hall.reads(r);
    }

    static int memories(InquestHall hall, int p, String text) {
        tape(hall, text);
        return hall.memories(p);
    }

    static void lawFault(String text, int fault, int place) {
        InquestHall hall = new InquestHall();
        is("reads of <" + text + ">", law(hall, 0, text), -1);
        is("fault(0) of <" + text + ">", hall.fault(0), fault);
        is("fault(1) of <" + text + ">", hall.fault(1), place);
    }

    static void memoryFault(InquestHall hall, int p, String text, int fault, int place) {
        int had = hall.of(p, 7);
        is("memories of <" + text + ">", memories(hall, p, text), -1);
        is("fault(0) of <" + text + ">", hall.fault(0), fault);
        is("fault(1) of <" + text + ">", hall.fault(1), place);
        is("of(p, 7) behind <" + text + ">", hall.of(p, 7), had);
    }

    /** A hall where NOW is that DAY. */
    static InquestHall hallOn(int day) {
        InquestHall hall = new InquestHall();
        for (int left = day; left > 0; left -= Math.min(left, 9999)) {
            hall.days(Math.min(left, 9999));
        }
        return hall;
    }
}
