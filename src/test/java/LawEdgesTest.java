/** ==== 2 and promises 11 to 16 at their edges; above each test stands the sentence that it holds to. */
public final class LawEdgesTest {
    private static final String ALL = "heirs all;";

    public static void main(String[] args) {
        highestFirst();
        behindTheTape();
        whatCantStand();
        everyByte();
        numbersOfDigits();
        keywords();
        blanks();
        theEnd();
        wrongNumbers();
        lines();
        openOnes();
        theFirstByItsPlace();
        afterAFault();
        atOnePlaceTheLeast();
        laterOnes();
        aheadOfItsLines();
        lawOn();
        fromALaterDay();
        Due.end();
    }

    private static void lines(String text, int due) {
        InquestHall x = new InquestHall();
        Due.is("reads of <" + text + ">", Due.law(x, 0, text), due);
        Due.is("fault(0) of <" + text + ">", x.fault(0), 0);
        Due.is("fault(1) of <" + text + ">", x.fault(1), -1);
    }

    private static int law(String text, int what) {
        InquestHall x = new InquestHall();
        Due.is("reads of <" + text + ">", Due.law(x, 0, text) < 1 ? 0 : 1, 1);
        return x.lawOn(0, what);
    }

    /** "Twenty bytes .., of each number the highest first": each one of the twenty in its place, above 127, too. */
    private static void highestFirst() {
        for (int at = 0; at < 20; at++) {
            for (int wrong : new int[] {0, 127, 128, 255}) {
                InquestHall x = new InquestHall();
                int[] five = {0x20202020, 0x20202020, 0x20202020, 0x20202020, 0x20202020};
                five[at / 4] = five[at / 4] & ~(255 << 24 - at % 4 * 8) | wrong << 24 - at % 4 * 8;
                Due.is("feed", x.feed(five[0], five[1], five[2], five[3], five[4]), 20);
                Due.is("reads", x.reads(0), -1);
                Due.is("byte " + wrong + " at " + at, x.fault(1), at);
            }
        }
        InquestHall y = new InquestHall();
        Due.is("writ 12;traverse 34;", y.feed(0x77726974, 0x2031323b, 0x74726176, 0x65727365, 0x2033343b), 20);
        Due.is("two lines", y.reads(0), 2);
        Due.is("writ", y.lawOn(0, 3), 12);
        Due.is("traverse", y.lawOn(0, 4), 34);
    }

    /** "come behind the TAPE", wherever it was cut; "empty then": the next text begins anew. */
    private static void behindTheTape() {
        InquestHall x = new InquestHall();
        x.feed(0x77726974, 0x20313233, 0x34353637, 0x38393031, 0x32333435);
        Due.yes("writ 12", x.end(7));
        Due.is("3;", x.feed(0x333b2020, 0x20202020, 0x20202020, 0x20202020, 0x2020200a), 27);
        Due.yes("all of it", x.end(27));
        Due.is("reads", x.reads(0), 1);
        Due.is("writ 123", x.lawOn(0, 3), 123);
        Due.no("it is empty", x.end(1));
        Due.yes("it is empty", x.end(0));
        Due.is("an empty TEXT", x.reads(0), 0);
        Due.is("nothing of it is left", x.lawOn(0, 3), 9999);
        Due.is("feed", x.feed(-1, -1, -1, -1, -1), 20);
        Due.is("a FAULT", x.reads(0), -1);
        Due.no("it is empty", x.end(1));
        Due.is("feed", x.feed(0x77726974, 0x20333b20, 0x20202020, 0x20202020, 0x20202020), 20);
        Due.is("reads", x.reads(0), 1);
        Due.is("writ 3", x.lawOn(0, 3), 3);
        Due.is("the FAULT is gone", x.fault(0), 0);
        Due.is("its place is gone", x.fault(1), -1);
    }

    /** "1 what can't stand there": in each line, in place of each of its TOKENS, one that is none, or the end. */
    private static void whatCantStand() {
        String[] lines = {"heirs all in 3 ;", "ward knight until 40 maid 0 to kin ;", "ward socage until 14 to lord ;",
            "dower 1 of 3 ;", "writ 720 ;", "traverse 360 ;", "relief ( worth + 1 ) * 2 / 3 - acres ;",
            "relief share when not age = 21 and heirs > 1 or shire < 3 ;", "king when not not service = 2 ;"};
        for (String line : lines) {
            lines(line, 1);
            int place = 0;
            for (String token : line.split(" ")) {
                String ahead = line.substring(0, place);
                Due.lawFault(ahead + ".", 1, place);
                Due.lawFault(ahead + "soon" + line.substring(place + token.length()), 1, place);
                Due.lawFault(ahead + "123456", 1, place);
                if (place > 0) {
                    Due.lawFault(ahead, 1, place);
                    Due.lawFault(ahead + "heir", 1, place);
                }
                place += token.length() + 1;
            }
            Due.lawFault(line + "3", 1, line.length());
            Due.lawFault(line + ")", 1, line.length());
            Due.lawFault(line + ";", 1, line.length());
        }
    }

    /** "letters ..; digits ..; + - * / ( ) < = > . Blanks (32, 10) between": each of the 256 bytes behind a line. */
    private static void everyByte() {
        for (int c = 0; c < 256; c++) {
            String text = ALL + (char) c;
            if (c == 32 || c == 10) {
                lines(text, 1);
                lines((char) c + ALL, 1);
            } else {
                Due.lawFault(text, 1, 10);
                Due.lawFault((char) c + ALL, 1, 0);
            }
            // within a formula: behind the 1 a digit, a blank, + - * / need more, < = > can't stand, others can't either
            String within = "relief 1" + (char) c + "1;";
            boolean digit = c >= '0' && c <= '9';
            if (digit || c == '+' || c == '-' || c == '*' || c == '/') {
                lines(within, 1);
            } else {
                Due.lawFault(within, 1, c == 32 || c == 10 || c == ';' ? 9 : 8);
            }
            String test = "king when 1" + (char) c + "1;";
            if (c == '<' || c == '=' || c == '>') {
                lines(test, 1);
            } else if (digit || c == '+' || c == '-' || c == '*' || c == '/') {
                Due.lawFault(test, 1, 13);
            } else {
                Due.lawFault(test, 1, c == 32 || c == 10 ? 12 : 11);
            }
        }
    }

    /** "digits as many as stand together NUMBERS of 1 to 5 digits or none". */
    private static void numbersOfDigits() {
        Due.is("one digit", law("writ 0;", 3), 0);
        Due.is("five digits", law("writ 00009;", 3), 9);
        Due.is("the greatest", law("dower 99999 of 99999;", 1), 99999);
        Due.lawFault("writ 000009;", 1, 5);
        Due.lawFault("dower 100000 of 100000;", 1, 6);
        Due.lawFault("dower 1 of 100000;", 1, 11);
        Due.lawFault("writ 1 2;", 1, 7);
        Due.lawFault("writ " + "9".repeat(12) + ";", 1, 5);
        Due.lawFault("writ " + "9".repeat(700) + ";", 1, 5);
        Due.lawFault("heirs all in 000003;", 1, 13);
        Due.lawFault("relief 2/000001;", 1, 9);
    }

    /** "letters as many as stand together are KEYWORDS (those told here) or none". */
    private static void keywords() {
        String[] words = {"heirs", "in", "ward", "until", "maid", "to", "dower", "of", "writ", "traverse", "relief", "when",
            "king", "eldest", "youngest", "all", "knight", "socage", "serjeanty", "lord", "kin", "worth", "acres", "shire",
            "service", "age", "share", "or", "and", "not", "before", "after", "days", "years", "at", "off"};
        for (String word : words) {
            boolean asked = java.util.List.of("worth", "acres", "shire", "service", "age", "heirs", "share").contains(word);
            if (asked) {
                lines("relief " + word + ";", 1);
            } else {
                Due.lawFault("relief " + word + ";", 1, 7);
            }
            Due.lawFault("relief " + word + "s;", 1, 7);
            Due.lawFault("relief " + word.substring(1) + ";", 1, 7);
            Due.lawFault("relief " + word.substring(0, word.length() - 1) + ";", 1, 7);
            Due.lawFault("relief " + word.toUpperCase(java.util.Locale.ROOT) + ";", 1, 7);
            boolean begins = java.util.List.of("heirs", "ward", "dower", "writ", "traverse", "relief", "king").contains(word);
            Due.lawFault(word, 1, begins ? word.length() : 0);
        }
        Due.lawFault("heirsall;", 1, 0);
        Due.lawFault("heirs allin 1;", 1, 6);
        Due.lawFault("kingwhen 1<2;", 1, 0);
        lines("heirs all in3;writ5;king when1<2and 1<2;", 3);
        Due.lawFault("ward knight until 1 to ward;", 1, 23);
        Due.lawFault("ward knight until 1 to share;", 1, 23);
        Due.lawFault("ward king until 1 to lord;", 1, 5);
        Due.lawFault("ward lord until 1 to lord;", 1, 5);
        Due.lawFault("ward all until 1 to lord;", 1, 5);
        Due.lawFault("heirs knight;", 1, 6);
        Due.lawFault("heirs share;", 1, 6);
    }

    /** "Blanks (32, 10) between", none needed, and as many as there is room for. */
    private static void blanks() {
        lines(" ".repeat(790) + "heirs all;", 1);
        lines("heirs all;" + "\n".repeat(790), 1);
        lines("heirs" + " \n".repeat(395) + "all;", 1);
        lines(" ", 0);
        lines("\n".repeat(800), 0);
        Due.lawFault("\t", 1, 0);
        Due.lawFault("heirs\rall;", 1, 5);
        Due.lawFault("heirs\u00a0all;", 1, 5);
        Due.lawFault("he irs all;", 1, 0);
        Due.lawFault("writ 1 0;", 1, 7);
    }

    /** "(the end: the text's length)", blanks and all. */
    private static void theEnd() {
        lines("", 0);
        Due.lawFault("heirs", 1, 5);
        Due.lawFault("heirs ", 1, 6);
        Due.lawFault("heirs all", 1, 9);
        Due.lawFault("heirs all \n \n", 1, 13);
        Due.lawFault("writ 1;king when 1<2", 1, 20);
        Due.lawFault("relief (1", 1, 9);
        Due.lawFault("relief 1/", 1, 9);
        Due.lawFault("king when not", 1, 13);
        Due.lawFault("heirs all" + " ".repeat(791), 1, 800);
        Due.lawFault("relief " + "1+".repeat(396) + "1", 1, 800);
        Due.lawFault("relief " + "1+".repeat(396), 1, 799);
        InquestHall x = new InquestHall();
        Due.tape(x, ALL);
        x.end(9);
        Due.is("its last byte cut off", x.reads(0), -1);
        Due.is("its place", x.fault(1), 9);
    }

    /** "2 (at the NUMBER) a shire above 3, an age above 40, the second of dower .., a writ or traverse .., a part by 0". */
    private static void wrongNumbers() {
        Due.is("shire 3", law("heirs all in 3;", 8), 2);
        Due.is("shire 0", law("heirs all in 0;", 5), 2);
        Due.lawFault("heirs all in 4;", 2, 13);
        Due.lawFault("heirs all in 99999;", 2, 13);
        Due.is("age 40", law("ward knight until 40 to lord;", 10), 40);
        Due.lawFault("ward knight until 41 to lord;", 2, 18);
        Due.is("maid 40", law("ward serjeanty until 0 maid 40 to lord;", 17), 40);
        Due.lawFault("ward serjeanty until 0 maid 41 to lord;", 2, 28);
        Due.is("dower 0 of 1", law("dower 0 of 1;", 2), 1);
        Due.lawFault("dower 0 of 0;", 2, 11);
        Due.lawFault("dower 00000 of 00000;", 2, 15);
        Due.is("dower 5 of 5", law("dower 5 of 5;", 1), 5);
        Due.lawFault("dower 5 of 4;", 2, 11);
        Due.lawFault("dower 99999 of 99998;", 2, 15);
        Due.is("writ 9999", law("writ 1;writ 9999;", 3), 9999);
        Due.lawFault("writ 10000;", 2, 5);
        Due.is("traverse 9999", law("traverse 1;traverse 9999;", 4), 9999);
        Due.lawFault("traverse 10000;", 2, 9);
        Due.is("a part by 1", law("relief 0/1;writ 3;", 3), 3);
        Due.is("a part by the greatest", law("relief 0/99999;writ 3;", 3), 3);
        Due.lawFault("relief 1/0;", 2, 9);
        Due.lawFault("relief 1*2/0;", 2, 11);
        Due.lawFault("relief 1 when 1/0<2;", 2, 16);
        Due.lawFault("king when 1<1/00;", 2, 14);
        Due.is("0 that is no part", law("relief 0*0;writ 3;", 3), 3);
    }

    /** "3 (at its first KEYWORD) the 31st line". */
    private static void lines() {
        String thirty = "writ 1;".repeat(30);
        lines(thirty, 30);
        lines("writ 1;".repeat(29), 29);
        Due.lawFault(thirty + "heirs all;", 3, 210);
        Due.lawFault(thirty + " \n king when 1<2;", 3, 213);
        Due.lawFault(thirty + "writ", 3, 210);
        Due.lawFault(thirty + "writ 10000;", 3, 210);
        Due.lawFault("relief(1);".repeat(30) + "relief((((((((((1", 3, 300);
        lines("relief(1);".repeat(30), 30);
        Due.is("the 30th counts", law("writ 1;".repeat(29) + "writ 2;", 3), 2);
    }

    /** "(at it) the 9th ( or not that is open". */
    private static void openOnes() {
        lines("relief " + "(".repeat(8) + "1" + ")".repeat(8) + ";", 1);
        Due.lawFault("relief " + "(".repeat(9) + "1" + ")".repeat(9) + ";", 3, 15);
        lines("relief " + "(".repeat(8) + "1" + ")".repeat(8) + "*" + "(".repeat(8) + "1" + ")".repeat(8) + ";", 1);
        Due.lawFault("relief (1)+" + "(".repeat(8) + "1+(", 3, 21);
        lines("relief ((((((((1)+(2))))))));", 1);
        Due.lawFault("relief ((((((((1)+((2))))))));", 3, 19);
        lines("king when " + "not ".repeat(8) + "1<2;", 1);
        Due.lawFault("king when " + "not ".repeat(9) + "1<2;", 3, 42);
        lines("king when " + "not ".repeat(7) + "(1)<(2);", 1);
        Due.lawFault("king when " + "not ".repeat(8) + "(1)<2;", 3, 42);
        Due.lawFault("king when " + "not ".repeat(8) + "1<(2);", 3, 44);
        Due.lawFault("king when " + "not ".repeat(7) + "(1)<((2));", 3, 43);
        lines("king when " + "not ".repeat(8) + "1<2 and " + "not ".repeat(8) + "1<2 or " + "not ".repeat(8) + "1<2;", 1);
        Due.lawFault("king when not 1<2 and " + "not ".repeat(9) + "1<2;", 3, 54);
        Due.lawFault("king when not 1<2 or " + "not ".repeat(8) + "(", 3, 53);
        lines("relief ((((((((1)))))))) when " + "not ".repeat(8) + "1<2;king when " + "not ".repeat(8) + "1<2;", 2);
    }

    /** "FAULTS, the first by its place". */
    private static void theFirstByItsPlace() {
        Due.lawFault("heirs all in 4;soon", 2, 13);
        Due.lawFault("soon heirs all in 4;", 1, 0);
        Due.lawFault("dower 5 of 4 of;", 2, 11);
        Due.lawFault("dower 5 if 4;", 1, 8);
        Due.lawFault("relief 1/0 1/0;", 2, 9);
        Due.lawFault("relief 1 1/0;", 1, 9);
        Due.lawFault("relief (((((((((1/0", 3, 15);
        Due.lawFault("relief 1/0+(((((((((1", 2, 9);
        Due.lawFault("ward knight until 41 maid 99 to soon", 2, 18);
        Due.lawFault("writ 1;".repeat(29) + "writ 10000;" + "writ 1;", 2, 208);
        Due.lawFault("writ 1;".repeat(15) + "relief ((((((((((1));" + "writ 1;".repeat(15), 3, 120);
    }

    /** What was open when a TEXT came to its FAULT is not open in the next one, on the same object. */
    private static void afterAFault() {
        InquestHall x = Due.hallOn(100);
        x.person(0, -1, -1, 0, 0);
        x.person(0, 0, -1, 0, 0);
        x.land(0, 0, -1);
        x.dies(0, 100);
        String[] wrong = {"relief ((((((((1+2*", "relief (((((((((1", "king when not not not not not not not not 1<2 not",
            "relief 1 when not not 1<((((((2", "relief ((((((((", "heirs", "dower 2 of 1;", "king when not 1+2*3"};
        for (int n = 0; n < 24; n++) {
            Due.is("a FAULT", Due.law(x, 0, wrong[n % wrong.length]), -1);
            if (n % 3 == 0) {
                Due.is("8 open", Due.law(x, 0, "relief ((((((((2))))))))*(3+4)when not not not not not not not not 1<2;"), 1);
                Due.is("its relief", x.relief(0, 0, 1), 14);
            }
        }
    }

    /** "at one place the least": what can't stand there is 1, were it one too many besides. */
    private static void atOnePlaceTheLeast() {
        String thirty = "writ 1;".repeat(30);
        Due.lawFault(thirty + "all", 1, 210);
        Due.lawFault(thirty + "5", 1, 210);
        Due.lawFault(thirty + "(", 1, 210);
        Due.lawFault("relief 1/((((((((((", 1, 9);
        Due.lawFault("relief ((((((((1(", 1, 16);
        Due.lawFault("relief ((((((((not", 1, 15);
        Due.lawFault("king when ((((((((not", 1, 18);
        Due.lawFault("king when not not not not not not not not 1 not", 1, 44);
        Due.lawFault("heirs all in 100000;", 1, 13);
        Due.lawFault("dower 1 of 000000;", 1, 11);
        Due.lawFault("heirs all 4;", 1, 10);
    }

    /** "Told line by line, later ones in place of earlier: heirs (of all SHIRES, or of one)". */
    private static void laterOnes() {
        for (int s = 0; s < 4; s++) {
            for (int other = 0; other < 4; other++) {
                Due.is("of one", law("heirs all;heirs youngest in " + s + ";", 5 + other), other == s ? 1 : 2);
            }
            Due.is("of all behind one", law("heirs youngest in " + s + ";heirs all;", 5 + s), 2);
            Due.is("eldest again", law("heirs all;heirs eldest in " + s + ";", 5 + s), 0);
        }
        String[] services = {"knight", "socage", "serjeanty"};
        String[] to = {"lord", "king", "kin"};
        for (int v = 0; v < 3; v++) {
            String first = "ward " + services[v] + " until 7 maid 8 to " + to[v] + ";";
            String second = "ward " + services[v] + " until 9 to " + to[(v + 1) % 3] + ";";
            Due.is("a man", law(first, 10 + 3 * v), 7);
            Due.is("a woman: maid", law(first, 11 + 3 * v), 8);
            Due.is("to whom", law(first, 12 + 3 * v), v);
            Due.is("in place of earlier", law(first + second, 10 + 3 * v), 9);
            Due.is("else the same", law(first + second, 11 + 3 * v), 9);
            Due.is("to whom then", law(first + second, 12 + 3 * v), (v + 1) % 3);
            for (int what = 10; what < 19; what++) {
                if ((what - 10) / 3 != v) {
                    Due.is("another SERVICE", law(first, what), 0);
                }
            }
        }
        Due.is("dower", law("dower 1 of 2;dower 2 of 5;", 1), 2);
        Due.is("dower", law("dower 1 of 2;dower 2 of 5;", 2), 5);
        Due.is("writ", law("writ 3;writ 4;", 3), 4);
        Due.is("traverse", law("traverse 3;traverse 4;", 4), 4);
    }

    /** "By a new TEXT, and at first, all is so ahead of its lines", and by a FAULT "the LAW stays". */
    private static void aheadOfItsLines() {
        int[] first = {0, 1, 3, 9999, 9999, 0, 0, 0, 0, -1, 0, 0, 0, 0, 0, 0, 0, 0, 0};
        int[] told = {0, 2, 4, 6, 7, 2, 2, 2, 2, -1, 8, 9, 2, 8, 8, 1, 40, 0, 2};
        String text = "heirs all;ward knight until 8 maid 9 to kin;ward socage until 8 to king;ward serjeanty until 40 maid 0 to kin;"
            + "dower 2 of 4;writ 6;traverse 7;relief 9;king when 1<2;";
        InquestHall x = new InquestHall();
        laid(x, first);
        Due.is("all told", Due.law(x, 0, text), 9);
        laid(x, told);
        String wrong = "heirs youngest;dower 0 of 9;writ 1;traverse 2;ward knight until 1 to lord;writ 10000;";
        Due.is("a FAULT in the last line", Due.law(x, 0, wrong), -1);
        laid(x, told);
        Due.is("a FAULT at the end", Due.law(x, 0, "heirs youngest"), -1);
        laid(x, told);
        Due.is("none such", Due.law(x, 1, "writ 5;"), -1);
        laid(x, told);
        Due.is("an empty one", Due.law(x, 0, ""), 0);
        laid(x, first);
    }

    private static void laid(InquestHall x, int[] due) {
        for (int what = 0; what < due.length; what++) {
            Due.is("lawOn(29999, " + what + ")", x.lawOn(29999, what), due[what]);
        }
    }

    /** "NONE if there is no such DAY, or another what." */
    private static void lawOn() {
        InquestHall x = new InquestHall();
        for (int what : new int[] {-1, 9, 19, 20, Integer.MAX_VALUE, Integer.MIN_VALUE}) {
            Due.is("lawOn(0, " + what + ")", x.lawOn(0, what), -1);
        }
        for (int day : new int[] {-1, 30000, Integer.MAX_VALUE, Integer.MIN_VALUE}) {
            Due.is("lawOn(" + day + ", 0)", x.lawOn(day, 0), -1);
            Due.is("lawOn(" + day + ", 3)", x.lawOn(day, 3), -1);
            Due.is("lawOn(" + day + ", 9)", x.lawOn(day, 9), -1);
        }
        Due.is("fault(-1)", x.fault(-1), -1);
        Due.is("fault(2)", x.fault(2), -1);
        Due.is("fault(0) ahead of all texts", x.fault(0), 0);
        Due.is("fault(1) ahead of all texts", x.fault(1), -1);
    }

    /** "REIGNS .., each from a later DAY on (REIGN 0 from DAY 0 on is there)", each with its own LAW. */
    private static void fromALaterDay() {
        InquestHall x = new InquestHall();
        Due.is("reign(0)", x.reign(0), -1);
        Due.is("reign(1)", x.reign(1), 1);
        Due.is("reign(1)", x.reign(1), -1);
        Due.is("reign(2)", x.reign(2), 2);
        Due.law(x, 1, "heirs all;writ 5;");
        Due.is("DAY 0", x.lawOn(0, 3), 9999);
        Due.is("DAY 1", x.lawOn(1, 3), 5);
        Due.is("DAY 2, as at first", x.lawOn(2, 3), 9999);
        Due.is("DAY 2", x.lawOn(2, 5), 0);
        Due.law(x, 2, "writ 6;");
        Due.law(x, 1, "writ x");
        Due.is("DAY 1 stays", x.lawOn(1, 3), 5);
        Due.is("DAY 1 stays", x.lawOn(1, 5), 2);
        Due.is("DAY 2", x.lawOn(2, 3), 6);
        Due.is("the last DAY", x.lawOn(29999, 3), 6);
    }
}
