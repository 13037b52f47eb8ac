/** Promises 8 to 10: feed, text, force. */
public final class TextsTest {
    public static void main(String[] args) {
        feeding();
        texts();
        faults();
        faultsOfDepth();
        fullTexts();
        forcing();
        values();
        givenAndDragged();
        Due.end();
    }

    private static void feeding() {
        EightOars x = new EightOars();
        Due.is("n 0", x.feed(0, 1), -2);
        Due.is("n 9", x.feed(9, 1), -2);
        Due.is("n -1", x.feed(-1, 1), -2);
        Due.is("two bytes", x.feed(2, 0x7A3172L), 2);
        Due.is("one byte", x.feed(1, 0x32L), 3);
        Due.is("the lowest first, no more than n", x.plan(), 0);
        Due.is("r12", x.planned(0, -1), 12);
        for (int i = 1; i <= 19; i++) {
            Due.is("eight bytes", x.feed(8, -1L), 8 * i);
        }
        Due.is("seven more", x.feed(7, 0), 159);
        Due.is("two have no room", x.feed(2, 0), -4);
        Due.is("BAD ahead of FULL", x.feed(9, 0), -2);
        Due.is("none came", x.count(4), 159);
        Due.is("one has room", x.feed(1, 0), 160);
        Due.is("none has room", x.feed(1, 0), -4);
    }

    private static void texts() {
        String[] right = {
            "give force + gear ; drag speed * 2 ;",
            "give 1;drag 2;\n \n",
            " \n give((((( 1 )))));drag- - - - -9999;",
            "give not not not not not 1 and not 1 or not 1 < 2;drag 1 - -1 - -1*- - - - -1;",
            "give 0001 = seat ;drag store*stroke<(1<2);"};
        EightOars x = new EightOars();
        for (int i = 0; i < right.length; i++) {
            Due.is(right[i], Due.text(x, right[i]), i + 1);
            Due.is("the tape is empty", x.count(4), 0);
        }
        Due.is("TEXTS", x.count(3), 6);
    }

    private static void fault(String text, int place) {
        EightOars x = new EightOars();
        Due.is(text, Due.text(x, text), -100 - place);
        Due.is("TEXTS of " + text, x.count(3), 1);
        Due.is("the tape behind " + text, x.count(4), 0);
    }

    private static void faults() {
        fault("", 0);
        fault(" \n ", 3);
        fault("give", 4);
        fault("giv 1;drag 2;", 0);
        fault("drag 1;give 2;", 0);
        fault("give ;drag 2;", 5);
        fault("give 1 drag 2;", 7);
        fault("give 1;give 2;", 7);
        fault("give 1;drag 2", 13);
        fault("give 1;drag 2 ; \n;", 17);
        fault("give 1;drag 2;  x", 16);
        fault("give 12345;drag 2;", 5);
        fault("give 00001;drag 2;", 5);
        fault("give 1234 5;drag 2;", 10);
        fault("give forces;drag 2;", 5);
        fault("give forc;drag 2;", 5);
        fault("give forcez;drag 2;", 5);
        fault("give Force;drag 2;", 5);
        fault("giveforce;drag 2;", 0);
        fault("give 1\t;drag 2;", 6);
        fault("give 1 > 2;drag 2;", 7);
        fault("give 1 < 2 < 3;drag 2;", 11);
        fault("give 1 = 2 < 3;drag 2;", 11);
        fault("give not 1 < 2 = 3;drag 2;", 15);
        fault("give 1 < not 2;drag 2;", 9);
        fault("give 1 + not 2;drag 2;", 9);
        fault("give - not 2;drag 2;", 7);
        fault("give + 2;drag 2;", 5);
        fault("give (1;drag 2;", 7);
        fault("give (1 ;drag 2;", 8);
        fault("give 1);drag 2;", 6);
        fault("give ();drag 2;", 6);
        fault("give 1 or ;drag 2;", 10);
        fault("give or 1;drag 2;", 5);
        fault("give 1 and or 1;drag 2;", 11);
        fault("give 1 * * 1;drag 2;", 9);
        fault("give 1 force;drag 2;", 7);
        fault("give give;drag 2;", 5);
        fault("give 1;drag 2; \u00e9", 15);
        fault("give 1;drag 2;\0", 14);
    }

    private static void faultsOfDepth() {
        fault("give ((((((1))))));drag 2;", 10);
        fault("give - - - - - - 1;drag 2;", 15);
        fault("give not not not not not not 1;drag 2;", 25);
        fault("give not not not not not (1);drag 2;", 25);
        fault("give not not not not not 1 + - 1;drag 2;", 29);
        fault("give not not not not not 1 < - 1;drag 2;", 29);
        fault("give (((-(not 1))));drag (not (not (not 1)));", 10);
        fault("give (((- -(1))));drag 1;", 11);
        fault("give ((((( -1 )))));drag 1;", 11);
        fault("give (not (not (1 + 2 * -3)));drag 1;", 24);
        EightOars x = new EightOars();
        Due.is("open ones are closed again",
                Due.text(x, "give (((((1)))))*(((((1)))));drag not not not not -1 and (((((1)))));"), 1);
        Due.is("a - of a SUM is none", Due.text(x, "give (((((1-1)))));drag 1;"), 2);
    }

    private static void fullTexts() {
        EightOars x = new EightOars();
        for (int i = 1; i < 6; i++) {
            Due.is("TEXT " + i, Due.text(x, "give 1;drag 1;"), i);
        }
        Due.feed(x, "give 1;drag 1;");
        Due.is("no room", x.text(), -4);
        Due.is("the tape stays", x.count(4), 14);
        Due.is("TEXTS", x.count(3), 6);
        x = new EightOars();
        for (int i = 1; i < 6; i++) {
            Due.text(x, "give 1;drag 1;");
        }
        Due.is("FULL ahead of a FAULT", x.text(), -4);
    }

    private static void forcing() {
        EightOars x = new EightOars();
        Due.is("no TEXT 1", x.force(1), -2);
        Due.is("no TEXT -1", x.force(-1), -2);
        Due.is("TEXT 0 itself", x.force(0), 0);
        Due.text(x, "give 1;drag 1;");
        Due.text(x, "give 2;drag 1;");
        Due.is("THE RULE was 0", x.force(2), 0);
        Due.is("THE RULE was 2", x.force(1), 2);
        Due.is("BAD changes nothing", x.force(3), -2);
        Due.is("THE RULE", x.count(5), 1);
    }

    /** What a rower in SEAT 3 with GEAR 4 gives: TURN of one STROKE is that times 4, less. */
    private static void gives(String e, int want) {
        EightOars x = new EightOars();
        x.rower(40, 10, 20, 0);
        x.sit(3, 0);
        x.force(Due.text(x, "give " + e + ";drag 0;"));
        Due.plan(x, "r1");
        Due.is("give " + e, x.row(0, 2), -4L * want);
    }

    private static void values() {
        gives("force", 10);
        gives("store", 20);
        gives("seat", 3);
        gives("gear", 4);
        gives("speed", 0);
        gives("stroke", 0);
        gives("2 + 3 * 4", 14);
        gives("(2 + 3) * 4", 20);
        gives("20 - 3 - 4", 13);
        gives("20 - (3 - 4)", 21);
        gives("20 - - 4", 24);
        gives("- 3 * - 4", 12);
        gives("- - 7", 7);
        gives("3 - 5", 0);
        gives("999", 999);
        gives("1000", 999);
        gives("9999 * 9999 * 9999", 0);
        gives("9999 * 9999 * 43 - 4172 * 1000", 747);
        gives("9999 * 9999 * 9999 < 0", 1);
        gives("1 < 2", 1);
        gives("2 < 2", 0);
        gives("2 = 2", 1);
        gives("2 = 3", 0);
        gives("(1 < 2) + (2 = 2) + 5", 7);
        gives("7 or 0", 1);
        gives("0 or 0", 0);
        gives("0 or 0 or 9", 1);
        gives("7 and 9", 1);
        gives("7 and 0", 0);
        gives("1 or 0 and 0", 1);
        gives("(1 or 0) and 0", 0);
        gives("not 0", 1);
        gives("not 7", 0);
        gives("not not 7", 1);
        gives("not 1 < 2", 0);
        gives("not 2 < 1", 1);
        gives("(not 1) < 2", 1);
        gives("not 0 and 0", 0);
        gives("not 1 + 1", 0);
        gives("- 1 or 0", 1);
        gives("(7)", 7);
        gives("0012", 12);
        gives("1 + 2 < 2 * 2", 1);
        gives("force = 10 and seat = 3", 1);
    }

    private static void givenAndDragged() {
        EightOars x = new EightOars();
        x.rower(100, 99, 0, 0);
        x.sit(0, 0);
        Due.plan(x, "r1");
        x.force(Due.text(x, "give 101;drag 0;"));
        Due.is("half of it with nothing in its STORE", x.row(0, 2), 50);
        x.force(Due.text(x, "give 9999;drag 0;"));
        Due.is("the bound first, half of it then", x.row(0, 2), 499);
        Due.is("speed", x.row(0, 1), 499 * 100 / 300);
        x.water(0, 100);
        x.force(Due.text(x, "give 9999;drag force + 10 * (store = 0) + seat + 1;"));
        Due.is("drag goes by SEAT 0's ROWER", x.row(0, 3), 99 + 10 + 1);
        x.sit(1, 0);
        Due.is("of nobody force and store are 0", x.row(0, 3), 11);
        x.force(Due.text(x, "give 9999;drag 0 - 1;"));
        Due.is("drag is not below 0", x.row(0, 3), 0);
        x.rig(0, 1, 7);
        x.force(Due.text(x, "give 9999;drag gear;"));
        Due.is("SEAT 0's GEAR", x.row(0, 3), 7);
    }
}
