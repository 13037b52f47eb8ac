/**
 * The edges of THE TAPE, TEXTS and their FAULT, THE RULE: promises 8 to 10. Each test stands for
 * the document's sentence above it.
 */
public final class TextEdgesTest {
    private static final int SEAT = 3;

    public static void main(String[] args) {
        bytesAtOnce();
        lowestFirst();
        tapeOf160();
        anEmptyTape();
        aTextOf160();
        wordsAsLongAsCanBe();
        numbersAsLongAsCanBe();
        blanks();
        everyByte();
        partsOfAText();
        partsOfAnE();
        partsOfAnAnd();
        partsOfASum();
        partsOfATerm();
        ones();
        names();
        keysAreNoNames();
        wordsThatAreNeither();
        comparedOnce();
        notOfANot();
        ofASumAlone();
        ints();
        truths();
        endsTooEarly();
        fiveOpen();
        sixOpen();
        openTillItEnds();
        theFirstFault();
        moreBehindTheEnd();
        tapeBehindAFault();
        textsOneBehindAnother();
        longTextsOneBehindAnother();
        sixTexts();
        fullAheadOfAll();
        theRule();
        theRuleAtFirst();
        Due.end();
    }

    private static void fault(String text, int place) {
        EightOars x = new EightOars();
        Due.is(text, Due.text(x, text), -100 - place);
        Due.is("no TEXT by " + text, x.count(3), 1);
    }

    private static void right(String text) {
        EightOars x = new EightOars();
        Due.is(text, Due.text(x, text), 1);
        Due.is("TEXTS by " + text, x.count(3), 2);
    }

    /** What the E comes to, for a ROWER of FORCE 17, STORE 2000 in SEAT 3, GEAR 4. */
    private static void gives(String e, int due) {
        EightOars x = new EightOars();
        x.rower(100, 17, 2000, 0);
        x.sit(SEAT, 0);
        Due.rule(x, "give " + e + ";drag 0;");
        Due.plan(x, "r1");
        Due.is(e, x.row(0, 2), -(SEAT + 1L) * due);
    }

    /** "The n lowest bytes of a number"; "BAD: n is not 1 .. 8." */
    private static void bytesAtOnce() {
        for (int n = 1; n <= 8; n++) {
            EightOars x = new EightOars();
            Due.is("n " + n, x.feed(n, -1L), n);
            Due.is("bytes by " + n, x.count(4), n);
            Due.is("n " + n + " again", x.feed(n, 0), 2 * n);
        }
        EightOars x = new EightOars();
        Due.is("n 0", x.feed(0, -1L), -2);
        Due.is("n 9", x.feed(9, -1L), -2);
        Due.is("none came", x.count(4), 0);
    }

    /** "the lowest first, come behind THE TAPE" */
    private static void lowestFirst() {
        EightOars x = new EightOars();
        x.feed(8, 0x3172327333783465L);
        Due.is("e4x3s2r1", x.plan(), 0);
        int[] kinds = {5, 5, 5, 5, 2, 2, 2, 1, 1, 0};
        for (int i = 0; i < kinds.length; i++) {
            Due.is("KIND of " + i, x.planned(0, i), kinds[i]);
        }
        x.feed(1, 0xFFFFFFFFFFFFFF72L);
        x.feed(1, 0x3931L);
        Due.is("r1 and no byte above", x.plan(), 1);
        Due.is("one STROKE", x.planned(1, -1), 1);
        x.feed(8, 0x8030303030303030L);
        Due.is("a byte with its highest bit", x.count(4), 8);
    }

    /** "THE TAPE (160 bytes at most)"; "FULL" */
    private static void tapeOf160() {
        EightOars x = new EightOars();
        for (int i = 1; i < 20; i++) {
            x.feed(8, 0);
        }
        Due.is("152 bytes", x.count(4), 152);
        Due.is("159", x.feed(7, 0), 159);
        for (int n = 2; n <= 8; n++) {
            Due.is("161 at least", x.feed(n, 0), -4);
        }
        Due.is("as it was", x.count(4), 159);
        Due.is("160", x.feed(1, 0), 160);
        Due.is("161", x.feed(1, 0), -4);
        Due.is("as it was", x.count(4), 160);
        x.plan();
        Due.is("room again", x.feed(8, 0), 8);
        EightOars y = new EightOars();
        for (int i = 1; i <= 20; i++) {
            Due.is("eight by eight", y.feed(8, 0), 8 * i);
        }
        Due.is("a 21st time", y.feed(8, 0), -4);
    }

    /** "the text's size, blanks at its end with it, if it ends too early": of nothing */
    private static void anEmptyTape() {
        fault("", 0);
        fault(" ", 1);
        fault("\n \n", 3);
    }

    /** "THE TAPE (160 bytes at most)": texts of as many bytes as there can be */
    private static void aTextOf160() {
        String sum = "1" + "+1".repeat(73);
        Due.is("bytes", ("give " + sum + ";drag 0;").length(), 160);
        gives(sum, 74);
        right("give 1;drag 1;" + " ".repeat(146));
        fault("give 1;drag 1;" + "\n".repeat(145) + "?", 159);
        fault("give " + "1+".repeat(77) + "1", 160);
        fault(" ".repeat(160), 160);
    }

    /** "TOKENS, each as long as can be: WORDS (a .. z)" */
    private static void wordsAsLongAsCanBe() {
        fault("giveforce;drag 1;", 0);
        fault("give forcegear;drag 1;", 5);
        fault("give notforce;drag 1;", 5);
        fault("give 1 or1;drag 1 nota;", 18);
        right("give1;drag2;");
        right("give force and not(gear)or-seat;drag(1);");
        fault("give 1;drags 1;", 7);
        fault("give force gear;drag 1;", 11);
    }

    /** "NUMBERS (as many digits as stand there, 4 at most)"; "a NUMBER that is too long" */
    private static void numbersAsLongAsCanBe() {
        right("give 0;drag 0000;");
        gives("0", 0);
        gives("9", 9);
        gives("0009", 9);
        gives("0900", 900);
        gives("9999 - 9990", 9);
        fault("give 10000;drag 1;", 5);
        fault("give 00000;drag 1;", 5);
        fault("give 99999999999999999999;drag 1;", 5);
        fault("give 1 + 12345", 9);
        fault("give 123 4567;drag 1;", 9);
        fault("give 1234force;drag 1;", 9);
        fault("give 12345force;drag 1;", 5);
        fault("12345", 0);
    }

    /** "blanks (32, 10) may stand between" */
    private static void blanks() {
        right("give 1;drag 1;");
        right("\n\ngive\n1\n;\ndrag\n1\n;\n\n");
        right("  give  1  ;  drag  1  ;  ");
        right("give(((((1)))))*-----1;drag(1)<(2);");
        fault("gi ve 1;drag 1;", 0);
        fault("give 1 2;drag 1;", 7);
        fault("give fo rce;drag 1;", 5);
    }

    /** "of a byte that begins none": each of the 256 bytes where a sign or the end of E could be */
    private static void everyByte() {
        for (int sign = 0; sign < 256; sign++) {
            String text = "give 1 " + (char) sign + ";drag 1;";
            if (sign == ' ' || sign == '\n') {
                right(text);
            } else if ("+-*<=;".indexOf(sign) >= 0) {
                // the second ; is the fault
                fault(text, 8);
            } else {
                fault(text, 7);
            }
            String first = (char) sign + "give 1;drag 1;";
            if (sign == ' ' || sign == '\n') {
                right(first);
            } else {
                fault(first, 0);
            }
        }
    }

    /** "TEXT: give E ; drag E ;": each of the six left out, and each of them twice */
    private static void partsOfAText() {
        String[] parts = {"give ", "1 ", "; ", "drag ", "2 ", "; "};
        int[] without = {0, 5, 7, 9, 14, 16};
        int[] twice = {5, 7, 9, 14, 16, 18};
        for (int part = 0; part < 6; part++) {
            StringBuilder less = new StringBuilder();
            StringBuilder more = new StringBuilder();
            for (int i = 0; i < 6; i++) {
                less.append(i == part ? "" : parts[i]);
                more.append(parts[i]).append(i == part ? parts[i] : "");
            }
            fault(less.toString(), without[part]);
            fault(more.toString(), twice[part]);
        }
        right(String.join("", parts));
    }

    /** "E: AND { or AND }": one, two, three, and as many as there can be */
    private static void partsOfAnE() {
        gives("4", 4);
        gives("0 or 4", 1);
        gives("0 or 0 or 4", 1);
        gives("4 or 0 or 0", 1);
        gives("0 or 0 or 0 or 0", 0);
        gives("0" + " or 0".repeat(28) + " or 4", 1);
        gives("0" + " or 0".repeat(29), 0);
        gives("1 and 0 or 0 and 1", 0);
        gives("1 and 0 or 1 and 1", 1);
        gives("1 or 1 and 0 or 0", 1);
        fault("give 0 or 0 or;drag 1;", 14);
        fault("give or 0;drag 1;", 5);
    }

    /** "AND: NOT { and NOT }": one, two, three, and as many as there can be */
    private static void partsOfAnAnd() {
        gives("7", 7);
        gives("7 and 8", 1);
        gives("7 and 8 and 9", 1);
        gives("7 and 8 and 0", 0);
        gives("7 and 0 and 9", 0);
        gives("0 and 8 and 9", 0);
        gives("7 and not 0 and not not 3", 1);
        gives("not 0 and not 1", 0);
        gives("1 < 2 and 2 < 3 and 3 = 3", 1);
        gives("1" + " and 1".repeat(24), 1);
        gives("1" + " and 1".repeat(23) + " and 0", 0);
        fault("give 1 and 1 and;drag 1;", 16);
        fault("give and 1;drag 1;", 5);
    }

    /** "SUM: TERM { + or - TERM }": the first ones first, and ahead of < and = */
    private static void partsOfASum() {
        gives("20 - 3 - 4", 13);
        gives("20 - 3 + 4", 21);
        gives("20 + 3 - 4", 19);
        gives("20 - (3 - 4)", 21);
        gives("20 - 2 * 3", 14);
        gives("2 * 3 - 4 * 1 + 5 * 6", 32);
        gives("20 - 5 < 16", 1);
        gives("20 - 5 < 15", 0);
        gives("15 < 20 - 4", 1);
        gives("20 - 5 = 10 + 5", 1);
        gives("9" + "-1+1".repeat(35), 9);
        fault("give 1 + 1 -;drag 1;", 12);
    }

    /** "TERM: ONE { * ONE }": ahead of + and - */
    private static void partsOfATerm() {
        gives("5", 5);
        gives("5 * 6", 30);
        gives("2 * 3 * 4", 24);
        gives("2 + 3 * 4", 14);
        gives("2 * 3 + 4", 10);
        gives("(2 + 3) * 4", 20);
        gives("2 * (3 + 4)", 14);
        gives("2 * - 3 + 10", 4);
        gives("- 2 * - 3", 6);
        gives("2 * 3 = 6", 1);
        gives("7" + "*1".repeat(73), 7);
        fault("give 2 * ;drag 1;", 9);
        fault("give 2 * * 3;drag 1;", 9);
        fault("give * 2;drag 1;", 5);
    }

    /** "ONE: a NUMBER, a NAME, - ONE, ( E )" */
    private static void ones() {
        gives("34", 34);
        gives("force", 17);
        gives("10 + - 3", 7);
        gives("10 - - 3", 13);
        gives("- 3 + 10", 7);
        gives("- force + 20", 3);
        gives("- (3 + 4) + 10", 3);
        gives("- - - 3 + 10", 7);
        gives("5 + (0 or 4)", 6);
        gives("5 + (3 and 4)", 6);
        gives("5 + (not 4)", 5);
        gives("5 + (3 < 4)", 6);
        gives("(3 + 4)", 7);
        gives("((force))", 17);
        fault("give -;drag 1;", 6);
        fault("give - + 1;drag 1;", 7);
        fault("give - ) 1;drag 1;", 7);
        fault("give (1 2);drag 1;", 8);
    }

    /** "NAMES are force store seat gear speed stroke" */
    private static void names() {
        gives("force", 17);
        gives("store - 1990", 10);
        gives("seat", SEAT);
        gives("gear", 4);
        gives("speed", 0);
        gives("stroke", 0);
        right("give force+store+seat+gear+speed+stroke;drag force+store+seat+gear+speed+stroke;");
    }

    /** "give, drag, or, and, not are KEYS" */
    private static void keysAreNoNames() {
        for (String key : new String[] {"give", "drag", "or", "and"}) {
            fault("give " + key + ";drag 1;", 5);
            fault("give 1 + " + key + ";drag 1;", 9);
            fault("give (" + key + ");drag 1;", 6);
        }
        fault("give 1 + not 1;drag 1;", 9);
        fault("give 1 * not 1;drag 1;", 9);
        fault("give 1 < not 1;drag 1;", 9);
        fault("give - not 1;drag 1;", 7);
        right("give 1 or not 1;drag 1 and not 1;");
        right("give (not 1);drag (not 1) + 1;");
        fault("give 1 drag;drag 1;", 7);
        fault("give 1 not;drag 1;", 7);
        fault("drag 1;give 1;", 0);
        fault("give 1;give 1;", 7);
    }

    /** "a WORD that is neither KEY nor NAME" */
    private static void wordsThatAreNeither() {
        String[] words = {"forc", "forces", "orce", "stor", "stores", "sea", "seats", "gea", "gears",
            "spee", "speeds", "strok", "strokes", "giv", "gives", "dra", "drags", "o", "ore", "an",
            "ands", "no", "nots", "a", "z", "e", "forcestore", "zzzzzzzzzz", "forcez", "zforce",
            "forcea", "aforce", "seatz", "notz"};
        for (String word : words) {
            fault("give " + word + ";drag 1;", 5);
            fault("give 1 " + word + " 1;drag 1;", 7);
            fault(word + " 1;drag 1;", 0);
        }
    }

    /** "SUM, perhaps < or = and a SUM (.. once)" */
    private static void comparedOnce() {
        right("give 1;drag 1;");
        right("give 1 < 1;drag 1 = 1;");
        fault("give 1 < 1 < 1;drag 1;", 11);
        fault("give 1 < 1 = 1;drag 1;", 11);
        fault("give 1 = 1 < 1;drag 1;", 11);
        fault("give 1 = 1 = 1;drag 1;", 11);
        right("give (1 < 1) < (1 = 1);drag 1;");
        right("give 1 < 1 or 1 < 1 and 1 = 1;drag 1;");
        fault("give 1 <;drag 1;", 8);
        fault("give < 1;drag 1;", 5);
        fault("give 1 <= 1;drag 1;", 8);
    }

    /** "NOT: not NOT" */
    private static void notOfANot() {
        gives("not not 5", 1);
        gives("not not not 5", 0);
        gives("not not 0", 0);
        gives("not not 2 < 1", 0);
        fault("give not;drag 1;", 8);
        fault("give not not;drag 1;", 12);
        fault("give not or 1;drag 1;", 9);
    }

    /** "(of a SUM alone, once)": not is of the whole comparison, and none stands behind it */
    private static void ofASumAlone() {
        gives("not 5 < 1", 1);
        gives("not 1 = 0", 1);
        gives("not 2 = 2", 0);
        fault("give not 5 < 1 < 1;drag 1;", 15);
        gives("(not 5) < 1", 1);
        gives("not 1 + 1 = 2", 0);
        gives("not 0 or 1", 1);
        gives("not 1 or 1", 1);
    }

    /** "An E is an int (32 bits, wrapping)" */
    private static void ints() {
        String least = "4096 * 4096 * 128";
        gives("(" + least + ") < 0", 1);
        gives(least + " < 0", 1);
        gives("0 < " + least + " - 1", 1);
        gives(least + " - 1 + 1 = " + least, 1);
        gives("- (" + least + ") = " + least, 1);
        gives("- (" + least + ") < 0", 1);
        gives("0 < 0 - 1 - " + least, 1);
        gives("4096 * 4096 * 256", 0);
        gives("4096 * 4096 * 256 + 7", 7);
        gives(least + " < 1", 1);
        gives("1 < " + least, 0);
        gives(least + " - 1 < " + least, 0);
        gives("4096 * 4096 * 64 + 4096 * 4096 * 64 = " + least, 1);
        gives("9999 * 9999 * 9999 * 9999 + 1", 999);
        gives("4096 * 4096 * 256 or 0", 0);
        gives(least + " and 1", 1);
    }

    /** "of or, and, not, <, = 1 or 0 (what is not 0 is true)" */
    private static void truths() {
        gives("5 or 0", 1);
        gives("0 or 5", 1);
        gives("0 or 0", 0);
        gives("5 or 7", 1);
        gives("5 and 7", 1);
        gives("5 and 0", 0);
        gives("0 and 5", 0);
        gives("0 - 5 or 0", 1);
        gives("0 - 5 and 0 - 7", 1);
        gives("2 and 1", 1);
        gives("2 and 4", 1);
        gives("not (0 - 5)", 0);
        gives("not 0", 1);
        gives("0 - 1 < 0", 1);
        gives("0 < 0", 0);
        gives("0 < 1", 1);
        gives("1 < 0", 0);
        gives("0 = 0", 1);
        gives("0 = 1", 0);
        gives("1 or 1 and 0", 1);
        gives("0 and 1 or 1", 1);
        gives("0 and (1 or 1)", 0);
        gives("5", 5);
        gives("(5)", 5);
    }

    /** "the text's size, blanks at its end with it, if it ends too early" */
    private static void endsTooEarly() {
        String text = "give - ( 1 + force ) ; drag not 1 < 2 * 3 ;";
        for (int size = 0; size < text.length(); size++) {
            String begun = text.substring(0, size);
            // a cut word is a fault of its own, but for one whose beginning is a key or a name
            boolean cut = size > 0 && Character.isLetter(text.charAt(size - 1))
                    && Character.isLetter(text.charAt(size));
            if (!cut) {
                fault(begun, size);
                fault(begun + " \n ", size + 3);
            }
        }
        right(text);
        right(text + " \n ");
    }

    /** "a ( , a not, a - of - ONE while 5 of these are open": five can be */
    private static void fiveOpen() {
        gives("(((((7)))))", 7);
        gives("- - - - - 7 + 20", 13);
        gives("not not not not not 7", 0);
        gives("not not not not not 0", 1);
        gives("not (not (- 1))", 1);
        gives("- (- (- 7)) + 10", 3);
        gives("((- (- 7)))", 7);
        gives("not not - (- 7)", 1);
        gives("(((((force)))))", 17);
    }

    /** "a ( , a not, a - of - ONE while 5 of these are open": a sixth can't */
    private static void sixOpen() {
        fault("give ((((((7))))));drag 1;", 10);
        fault("give ------7;drag 1;", 10);
        fault("give not not not not not not 7;drag 1;", 25);
        fault("give (((((-7)))));drag 1;", 10);
        fault("give (((((not 7)))));drag 1;", 10);
        fault("give -----(7);drag 1;", 10);
        fault("give not not not not not (7);drag 1;", 25);
        fault("give not not not not not -7;drag 1;", 25);
        fault("give not(-(not(-(1))));drag 1;", 14);
        right("give not(-(not 1));drag not(-(-1));");
        fault("give 1;drag ((((((7))))));", 17);
    }

    /** "(a ( till its ) , not and - till what they belong to ends)" */
    private static void openTillItEnds() {
        gives("(((((1))))) + (((((2)))))", 3);
        gives("-----1 + -----2 + 9", 6);
        gives("-----1 * -----2", 2);
        gives("(((((1)) + (2)))) + (((((3)) + 4)))", 10);
        right("give (((((1)) + ((2)))));drag 1;");
        fault("give (((((1)) + (((2))))));drag 1;", 18);
        right("give not not not not not 1 and not not not not not 1;drag 1;");
        right("give not not not not not 1 or (((((1)))));drag 1;");
        fault("give not not not not not 1 + (1);drag 1;", 29);
        fault("give not not not not not 1 * -1;drag 1;", 29);
        fault("give not not not not not 1 < -1;drag 1;", 29);
        fault("give not not not not 1 < --1;drag 1;", 26);
        right("give not not not not 1 < -1;drag 1;");
        right("give ((((-1 - -1))));drag 1;");
        right("give (((((1 - 1 - 1)))));drag 1;");
        fault("give (((((1 - -1)))));drag 1;", 14);
        right("give not (((-1))) and not (((-1)));drag 1;");
    }

    /** "the place of the first byte of the first TOKEN that can't stand there" */
    private static void theFirstFault() {
        fault("give ) ? 12345 zzz", 5);
        fault("give 1 1 ?", 7);
        fault("give   +1;drag ?;", 7);
        fault("give 1;;drag 1;", 7);
        fault("give 1;1 drag 1;", 7);
        fault("give 1);drag 1;", 6);
        fault("give (1;drag 1);", 7);
        fault("give (1));drag 1;", 8);
        fault("give ();drag 1;", 6);
        fault("give 1(2);drag 1;", 6);
        fault("give 1 +;drag 1;", 8);
        fault("give 1 + + 1;drag 1;", 9);
        fault("give 1 - * 1;drag 1;", 9);
        fault("give 1 or and 1;drag 1;", 10);
        fault("give ;drag 1;", 5);
        fault("give 1;drag ;", 12);
        fault(";", 0);
        fault("1", 0);
    }

    /** "TEXT: give E ; drag E ;": nothing stands behind it */
    private static void moreBehindTheEnd() {
        fault("give 1;drag 1;;", 14);
        fault("give 1;drag 1; 1", 15);
        fault("give 1;drag 1;give 1;", 14);
        fault("give 1;drag 1; \n ?", 17);
        fault("give 1;drag 1;\0", 14);
    }

    /** "THE TAPE, which is empty then (by a FAULT, too)" */
    private static void tapeBehindAFault() {
        EightOars x = new EightOars();
        Due.is("a FAULT", Due.text(x, "give 1;drag"), -111);
        Due.is("empty", x.count(4), 0);
        Due.is("read again", x.text(), -100);
        Due.is("a TEXT", Due.text(x, "give 1;drag 1;"), 1);
        Due.is("empty", x.count(4), 0);
        Due.is("no second one", x.text(), -100);
        Due.is("TEXTS", x.count(3), 2);
    }

    /** A text is of what was fed since, whatever was read ahead of it. */
    private static void textsOneBehindAnother() {
        EightOars x = new EightOars();
        x.rower(100, 17, 9999, 0);
        x.sit(0, 0);
        Due.plan(x, "r1");
        Due.is("a FAULT far behind", Due.text(x, "give 500 + 400;drag 100 * (3 + ?"), -131);
        Due.is("the first", Due.text(x, "give 21;drag 0;"), 1);
        Due.is("a longer one", Due.text(x, "give (1 + 2) * (3 + 4) + 1;drag 0;"), 2);
        Due.is("a FAULT", Due.text(x, "give 1 1;drag 1;"), -107);
        Due.is("a shorter one", Due.text(x, "give 23;drag 0;"), 3);
        int[] due = {17 + 4, 21, 22, 23};
        for (int text = 0; text < 4; text++) {
            x.force(text);
            Due.is("by TEXT " + text, x.row(0, 2), due[text]);
        }
    }

    /** The same of texts that are as long as can be. */
    private static void longTextsOneBehindAnother() {
        EightOars x = new EightOars();
        x.rower(100, 17, 9999, 0);
        x.sit(0, 0);
        Due.plan(x, "r1");
        Due.is("a long FAULT", Due.text(x, "give " + "1+".repeat(70) + "?"), -245);
        for (int i = 1; i < 6; i++) {
            Due.rule(x, "give " + i + "+1".repeat(73) + ";drag 0;");
            Due.is("by TEXT " + i, x.row(0, 2), 73 + i);
        }
        for (int i = 1; i < 6; i++) {
            x.force(i);
            Due.is("by TEXT " + i + " again", x.row(0, 2), 73 + i);
        }
    }

    /** "There are 6 TEXTS at most, TEXT 0 with them." */
    private static void sixTexts() {
        EightOars x = new EightOars();
        Due.is("TEXT 0 alone", x.count(3), 1);
        for (int i = 1; i < 6; i++) {
            Due.is("no TEXT " + i, x.force(i), -2);
            Due.is("TEXT " + i, Due.text(x, "give " + i + ";drag 0;"), i);
            Due.is("TEXTS", x.count(3), i + 1);
        }
        Due.is("the seventh", Due.text(x, "give 6;drag 0;"), -4);
        Due.is("six TEXTS", x.count(3), 6);
        x.rower(100, 50, 9999, 0);
        x.sit(0, 0);
        x.plan();
        Due.plan(x, "r1");
        for (int i = 1; i < 6; i++) {
            x.force(i);
            Due.is("by TEXT " + i, x.row(0, 2), i);
        }
    }

    /** "FULL (ahead of all): no TEXT more has room (THE TAPE stays)." */
    private static void fullAheadOfAll() {
        EightOars x = new EightOars();
        for (int i = 1; i < 6; i++) {
            Due.text(x, "give 1;drag 1;");
        }
        Due.is("an empty tape", x.text(), -4);
        Due.feed(x, "r1");
        Due.is("a FAULT", x.text(), -4);
        Due.is("the tape stays", x.count(4), 2);
        Due.is("as it was", x.plan(), 0);
        Due.is("one STROKE", x.planned(0, -1), 1);
    }

    /** "A TEXT is THE RULE: which was. BAD." */
    private static void theRule() {
        EightOars x = new EightOars();
        Due.is("TEXT -1", x.force(-1), -2);
        Due.is("TEXT 1", x.force(1), -2);
        Due.is("TEXT 0", x.force(0), 0);
        for (int i = 1; i < 6; i++) {
            Due.text(x, "give 1;drag 1;");
        }
        Due.is("TEXT 5", x.force(5), 0);
        Due.is("THE RULE", x.count(5), 5);
        Due.is("TEXT 6", x.force(6), -2);
        Due.is("THE RULE is as it was", x.count(5), 5);
        Due.is("TEXT 0 again", x.force(0), 5);
        Due.is("THE RULE", x.count(5), 0);
    }

    /** "TEXT 0, at first THE RULE, is: give force + gear ; drag speed * 2 ;" */
    private static void theRuleAtFirst() {
        EightOars x = new EightOars();
        Due.is("THE RULE", x.count(5), 0);
        x.rower(100, 92, 9999, 0);
        x.sit(0, 0);
        x.rig(0, 1, 8);
        x.water(0, 50);
        Due.plan(x, "r1");
        Due.plan(x, "r2");
        // (92 + 8) * 8 / 4 = 200: 20000 / 300 = 66, then WATER of half of 132
        Due.is("WAY of one", x.row(0, 0), 66);
        Due.is("TURN of one", x.row(0, 2), 200);
        Due.is("nothing is LOST of one", x.row(0, 3), 0);
        Due.is("LOST of two", x.row(1, 3), 66);
        Due.is("WAY of two", x.row(1, 0), 66 + 66);
        x.water(0, 51);
        Due.is("132 * 51 / 100", x.row(1, 3), 67);
    }
}
