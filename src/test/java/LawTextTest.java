/** Promises 11 to 16: reign, feed, end, reads, fault, lawOn. */
public final class LawTextTest {
    public static void main(String[] args) {
        reigns();
        tape();
        linesInPlaceOfEarlier();
        lawStaysBehindFault();
        words();
        numbers();
        limits();
        formulas();
        open();
        Due.end();
    }

    private static void reigns() {
        InquestHall x = new InquestHall();
        Due.is("reign(-1)", x.reign(-1), -1);
        Due.is("reign(30000)", x.reign(30000), -1);
        Due.is("reign(10)", x.reign(10), 1);
        Due.is("reign(10)", x.reign(10), -1);
        Due.is("reign(9)", x.reign(9), -1);
        Due.is("reign(11)", x.reign(11), 2);
        Due.is("reign(29999)", x.reign(29999), 3);
        int[] days = {0, 9, 10, 11, 29998, 29999};
        int[] due = {0, 0, 1, 2, 2, 3};
        for (int i = 0; i < days.length; i++) {
            Due.is("lawOn(" + days[i] + ", 0)", x.lawOn(days[i], 0), due[i]);
        }
        Due.is("lawOn(30000, 0)", x.lawOn(30000, 0), -1);
        Due.is("lawOn(-1, 0)", x.lawOn(-1, 0), -1);
        InquestHall y = new InquestHall();
        y.reign(1);
        y.reign(2);
        y.reign(3);
        Due.is("the 5th", y.reign(4), -1);
        Due.is("reads(3)", Due.law(y, 3, "writ 7;"), 1);
        Due.is("reads(4)", Due.law(y, 4, "writ 8;"), -1);
        Due.is("reads(-1)", Due.law(y, -1, "writ 8;"), -1);
        Due.is("lawOn(2, 3)", y.lawOn(2, 3), 9999);
        Due.is("lawOn(3, 3)", y.lawOn(3, 3), 7);
        Due.is("lawOn(29999, 3)", y.lawOn(29999, 3), 7);
    }

    private static void tape() {
        InquestHall x = new InquestHall();
        Due.no("end(1)", x.end(1));
        Due.no("end(-1)", x.end(-1));
        for (int n = 1; n <= 40; n++) {
            Due.is("feed", x.feed(0, 0, 0, 0, 0), 20 * n);
        }
        Due.is("the 801st", x.feed(0, 0, 0, 0, 0), -1);
        Due.no("end(801)", x.end(801));
        Due.yes("end(800)", x.end(800));
        Due.yes("end(781)", x.end(781));
        Due.is("too many still", x.feed(0, 0, 0, 0, 0), -1);
        Due.yes("end(780)", x.end(780));
        Due.is("just so many", x.feed(0, 0, 0, 0, 0), 800);
        Due.yes("end(0)", x.end(0));
        // "writ" " 12;" and blanks, the highest byte first
        x.feed(0x77726974, 0x2031323b, 0x20202020, 0x20202020, 0x0a202020);
        Due.is("reads(0)", x.reads(0), 1);
        Due.is("lawOn(0, 3)", x.lawOn(0, 3), 12);
        Due.no("empty behind reads", x.end(1));
        Due.tape(x, "heirs");
        Due.is("a fault", x.reads(0), -1);
        Due.no("empty behind a fault", x.end(1));
        Due.tape(x, "heirs");
        Due.is("no such reign", x.reads(1), -1);
        Due.no("empty then, too", x.end(1));
        Due.is("fault(0) stays", x.fault(0), 1);
        Due.is("fault(1) stays", x.fault(1), 5);
        Due.tape(x, "heirs");
        Due.is("no such person", x.memories(0), -1);
        Due.no("empty then, too", x.end(1));
        Due.is("empty text", x.reads(0), 0);
        Due.is("fault(0)", x.fault(0), 0);
        Due.is("fault(1)", x.fault(1), -1);
        Due.is("fault(2)", x.fault(2), -1);
        Due.is("fault(-1)", x.fault(-1), -1);
        Due.is("lawOn(0, 3) as at first", x.lawOn(0, 3), 9999);
    }

    private static void laid(InquestHall x, int... due) {
        for (int what = 1; what <= due.length; what++) {
            Due.is("lawOn(0, " + what + ")", x.lawOn(0, what), due[what - 1]);
        }
        Due.is("lawOn(0, 19)", x.lawOn(0, 19), -1);
        Due.is("lawOn(0, -1)", x.lawOn(0, -1), -1);
    }

    private static void linesInPlaceOfEarlier() {
        InquestHall x = new InquestHall();
        laid(x, 1, 3, 9999, 9999, 0, 0, 0, 0, -1, 0, 0, 0, 0, 0, 0, 0, 0, 0);
        Due.is("four lines", Due.law(x, 0, "heirs youngest in 1;heirs all;heirs eldest in 3;heirs youngest in 0;"), 4);
        laid(x, 1, 3, 9999, 9999, 1, 2, 2, 0, -1, 0, 0, 0, 0, 0, 0, 0, 0, 0);
        Due.is("wards", Due.law(x, 0, "ward knight until 21 maid 14 to king;ward socage until 14 maid 0 to kin;\n"
            + "ward serjeanty until 40 to lord;ward knight until 20 to kin;"), 4);
        laid(x, 1, 3, 9999, 9999, 0, 0, 0, 0, -1, 20, 20, 2, 14, 0, 2, 40, 40, 0);
        Due.is("rest", Due.law(x, 0, "dower 1 of 2;dower 99999 of 99999;writ 0;writ 9999;traverse 9999;traverse 00007;"), 6);
        laid(x, 99999, 99999, 9999, 7, 0, 0, 0, 0, -1, 0, 0, 0, 0, 0, 0, 0, 0, 0);
        Due.is("anew", Due.law(x, 0, "ward serjeanty until 1 maid 2 to king;"), 1);
        laid(x, 1, 3, 9999, 9999, 0, 0, 0, 0, -1, 0, 0, 0, 0, 0, 0, 1, 2, 1);
    }

    private static void lawStaysBehindFault() {
        InquestHall x = new InquestHall();
        Due.law(x, 0, "writ 5;traverse 6;heirs all;");
        Due.is("a fault at the end", Due.law(x, 0, "writ 7;heirs youngest;dower 1 of 2"), -1);
        Due.is("fault(1)", x.fault(1), 34);
        laid(x, 1, 3, 5, 6, 2, 2, 2, 2);
        Due.is("well then", Due.law(x, 0, "writ 7;"), 1);
        laid(x, 1, 3, 7, 9999, 0, 0, 0, 0);
    }

    private static void words() {
        Due.lawFault("Heirs all;", 1, 0);
        Due.lawFault("heirsX all;", 1, 0);
        Due.lawFault("heirsA all;", 1, 0);
        Due.lawFault("heirsZ all;", 1, 0);
        Due.lawFault("heirsa all;", 1, 0);
        Due.lawFault("heirsz all;", 1, 0);
        Due.lawFault("heirs@all;", 1, 5);
        Due.lawFault("heirs[all;", 1, 5);
        Due.lawFault("heirs`all;", 1, 5);
        Due.lawFault("heirs{all;", 1, 5);
        Due.lawFault("writ 1:", 1, 6);
        Due.lawFault("heir all;", 1, 0);
        Due.lawFault("heirs elder;", 1, 6);
        Due.lawFault("heirs knight;", 1, 6);
        Due.lawFault("heirs all of 1;", 1, 10);
        Due.lawFault("heirs all in all;", 1, 13);
        Due.lawFault("heirs all 1;", 1, 10);
        Due.lawFault("heirs all", 1, 9);
        Due.lawFault("heirs all  \n", 1, 12);
        Due.lawFault("heirs all;;", 1, 10);
        Due.lawFault(";", 1, 0);
        Due.lawFault("eldest;", 1, 0);
        Due.lawFault("heirs\tall;", 1, 5);
        Due.lawFault("heirs\rall;", 1, 5);
        Due.lawFault("heirs \u00e9;", 1, 6);
        Due.lawFault("heirs \u00ff", 1, 6);
        Due.lawFault("heirs all.", 1, 9);
        Due.lawFault("before 3;", 1, 0);
        Due.lawFault("ward lord until 1 to king;", 1, 5);
        Due.lawFault("ward knight 1 to king;", 1, 12);
        Due.lawFault("ward knight until to king;", 1, 18);
        Due.lawFault("ward knight until 1 to knight;", 1, 23);
        Due.lawFault("ward knight until 1 king;", 1, 20);
        Due.lawFault("ward knight until 1 maid 2 maid 3 to king;", 1, 27);
        Due.lawFault("dower 1 3;", 1, 8);
        Due.lawFault("dower 1 of;", 1, 10);
        Due.lawFault("writ;", 1, 4);
        Due.lawFault("traverse -1;", 1, 9);
        Due.lawFault("king worth>1;", 1, 5);
        InquestHall x = new InquestHall();
        Due.is("no blanks needed", Due.law(x, 0, "heirs all in1;ward knight until21maid14to lord;relief(worth)when 1<2and 2<3;"), 3);
        Due.is("blanks between", Due.law(x, 0, "\n  heirs \n all\nin 1 ; \n"), 1);
    }

    private static void numbers() {
        Due.lawFault("relief 123456;", 1, 7);
        Due.lawFault("relief 000001;", 1, 7);
        Due.lawFault("heirs all in 4;", 2, 13);
        Due.lawFault("heirs all in 100000;", 1, 13);
        Due.lawFault("ward knight until 41 to lord;", 2, 18);
        Due.lawFault("ward knight until 40 maid 41 to lord;", 2, 26);
        Due.lawFault("dower 0 of 0;", 2, 11);
        Due.lawFault("dower 2 of 1;", 2, 11);
        Due.lawFault("writ 10000;", 2, 5);
        Due.lawFault("traverse 10000;", 2, 9);
        Due.lawFault("relief 1/0;", 2, 9);
        Due.lawFault("relief 1/00000;", 2, 9);
        Due.lawFault("king when 1/0>1;", 2, 12);
        Due.lawFault("writ 10000", 2, 5);
        Due.lawFault("heirs all in 4 4", 2, 13);
        InquestHall x = new InquestHall();
        Due.is("edges", Due.law(x, 0, "heirs all in 3;ward knight until 40 maid 40 to lord;dower 0 of 1;dower 1 of 1;writ 9999;traverse 9999;relief 0/1;"), 7);
    }

    private static void limits() {
        String thirty = "writ 1;".repeat(30);
        InquestHall x = new InquestHall();
        Due.is("30 lines", Due.law(x, 0, thirty + " \n"), 30);
        Due.lawFault(thirty + "writ 1;", 3, 210);
        Due.lawFault(thirty + "  king", 3, 212);
        Due.lawFault(thirty + "eldest", 1, 210);
        Due.lawFault(thirty + ";", 1, 210);
        Due.lawFault("writ 1;".repeat(29) + "writ 10000;writ 1;", 2, 208);
        Due.lawFault("1".repeat(800), 1, 0);
        Due.lawFault("x".repeat(800), 1, 0);
        Due.lawFault("relief" + "(".repeat(794), 3, 14);
        Due.lawFault("relief " + "1+".repeat(396) + "1", 1, 800);
        // what was cut off does not count
        Due.tape(x, "writ 123456;");
        x.end(10);
        Due.is("cut off", x.reads(0), -1);
        Due.is("cut off: fault(0)", x.fault(0), 2);
        Due.tape(x, "writ 1;all");
        x.end(8);
        Due.is("cut off", x.reads(0), -1);
        Due.is("cut off: fault(1)", x.fault(1), 7);
        Due.is("800 bytes", Due.law(x, 0, "relief 1" + "+1".repeat(395) + " ;"), 1);
        Due.is("many open one behind the other", Due.law(x, 0, "relief (1)" + "+(1)".repeat(190) + ";"), 1);
    }

    private static void formulas() {
        Due.lawFault("relief ;", 1, 7);
        Due.lawFault("relief", 1, 6);
        Due.lawFault("relief 1+;", 1, 9);
        Due.lawFault("relief +1;", 1, 7);
        Due.lawFault("relief 1 1;", 1, 9);
        Due.lawFault("relief (1;", 1, 9);
        Due.lawFault("relief 1);", 1, 8);
        Due.lawFault("relief ();", 1, 8);
        Due.lawFault("relief 1/worth;", 1, 9);
        Due.lawFault("relief 1/(2);", 1, 9);
        Due.lawFault("relief 1/;", 1, 9);
        Due.lawFault("relief lord;", 1, 7);
        Due.lawFault("relief eldest;", 1, 7);
        Due.lawFault("relief king;", 1, 7);
        Due.lawFault("relief 1<2;", 1, 8);
        Due.lawFault("relief not 1<2;", 1, 7);
        Due.lawFault("relief 1 and 2;", 1, 9);
        Due.lawFault("relief 1 when;", 1, 13);
        Due.lawFault("relief 1 when 1;", 1, 15);
        Due.lawFault("relief 1 when 1<2<3;", 1, 17);
        Due.lawFault("relief 1 when (1<2);", 1, 16);
        Due.lawFault("relief 1 when 1<2 and;", 1, 21);
        Due.lawFault("relief 1 when 1<2 and 3;", 1, 23);
        Due.lawFault("relief 1 when 1 and 2<3;", 1, 16);
        Due.lawFault("relief 1 when 1<not 2;", 1, 16);
        Due.lawFault("relief 1 when not (1<2);", 1, 20);
        Due.lawFault("relief 1 when 1+not 2<3;", 1, 16);
        Due.lawFault("relief 1 when not;", 1, 17);
        Due.lawFault("relief 1 when 1<2 when 1<2;", 1, 18);
        Due.lawFault("relief 1 when (1 and 2)<3;", 1, 17);
        Due.lawFault("king when 1<2 or or 1<2;", 1, 17);
        Due.lawFault("king when 1=(2;", 1, 14);
        Due.lawFault("king when 1=;", 1, 12);
        Due.lawFault("king when;", 1, 9);
        InquestHall x = new InquestHall();
        Due.is("all", Due.law(x, 0, "relief worth+acres-shire*service/7*(age-heirs)+share when not not worth<1 and 2=acres or not 3>2;king when heirs=1;"), 2);
    }

    private static void open() {
        InquestHall x = new InquestHall();
        Due.is("8 open", Due.law(x, 0, "relief ((((((((1))))))));"), 1);
        Due.is("8 not", Due.law(x, 0, "king when not not not not not not not not 1<2 and not not not not not not not not 1<2;"), 1);
        Due.is("4 and 4", Due.law(x, 0, "king when not not not not ((((1))))<((((1))))or((((((((1))))))))=1;"), 1);
        Due.lawFault("relief (((((((((1", 3, 15);
        Due.lawFault("relief (((((((((", 3, 15);
        Due.lawFault("king when not not not not not not not not not 1<2;", 3, 42);
        Due.lawFault("king when not not not not (((((1)))))<1;", 3, 30);
        Due.lawFault("king when not not not not ((((1))))<(((((1)))));", 3, 40);
        Due.lawFault("relief ((((((((1/(", 1, 17);
        Due.lawFault("relief ((((((((not", 1, 15);
        Due.lawFault("relief ((((((((1)))))))) when (((((((((", 3, 38);
    }
}
