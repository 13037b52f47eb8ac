/**
 * The edges of PLANS and their FAULT: promises 11, 12 and 33. Each test stands for the document's
 * sentence above it.
 */
public final class PlanEdgesTest {
    private static final String LETTERS = "rsxlwe";

    public static void main(String[] args) {
        partsAtLeast();
        partsAtMost();
        everyByteForALetter();
        everyByteForADigit();
        everyByteBehindADigit();
        everyByteBehindTwoDigits();
        numbers();
        noughts();
        nothingBetween();
        strokesAtMost();
        moreThan200();
        moreThan200InTwoDigits();
        behind200();
        endsTooEarly();
        theFirstFault();
        tapeBehindAFault();
        plansOneBehindAnother();
        eightPlans();
        fullAheadOfAll();
        strokesPlanned();
        kindsPlanned();
        takenForAKind();
        takenRefusals();
        Due.end();
    }

    private static void fault(String plan, int place) {
        EightOars x = new EightOars();
        Due.is(plan, Due.plan(x, plan), -100 - place);
        Due.is("no PLAN by " + plan, x.count(2), 0);
        Due.is("no STROKES by " + plan, x.planned(0, -1), -1);
    }

    private static void right(String plan, int strokes) {
        EightOars x = new EightOars();
        Due.is(plan, Due.plan(x, plan), 0);
        Due.is("STROKES of " + plan, x.planned(0, -1), strokes);
    }

    /** "PARTS, 1 to 12 of them"; "THE TAPE's size, if it ends too early, also if there is no PART" */
    private static void partsAtLeast() {
        fault("", 0);
        right("r1", 1);
    }

    /** "PARTS, 1 to 12 of them" */
    private static void partsAtMost() {
        right("r1".repeat(11), 11);
        right("r1".repeat(12), 12);
        fault("r1".repeat(13), 24);
        fault("r1".repeat(12) + "r", 24);
        right("r1".repeat(12) + "1", 22);
        fault("r1".repeat(12) + "11", 25);
        right("r1".repeat(11) + "r12", 23);
        fault("r1".repeat(12) + "?", 24);
        right("s16".repeat(12), 192);
        fault("s16".repeat(12) + "s", 36);
    }

    /** "a letter (r a STROKE, s START, x SPURT, l LATE, w ROUGH, e EASY)" */
    private static void everyByteForALetter() {
        for (int sign = 0; sign < 256; sign++) {
            int kind = LETTERS.indexOf(sign);
            String plan = (char) sign + "7";
            if (kind >= 0) {
                right(plan, 7);
                right("r1" + plan, 8);
                EightOars x = new EightOars();
                Due.plan(x, plan);
                Due.is("KIND of " + plan, x.planned(0, 6), kind);
            } else {
                fault(plan, 0);
                fault("r12" + plan, 3);
            }
        }
    }

    /** "and a number (1 or 2 digits ..)": the byte behind a letter */
    private static void everyByteForADigit() {
        for (int sign = 0; sign < 256; sign++) {
            String plan = "x" + (char) sign;
            if (sign >= '1' && sign <= '9') {
                right(plan, sign - '0');
            } else {
                fault(plan, sign == '0' ? 2 : 1);
            }
        }
    }

    /** "1 or 2 digits": the byte behind one digit, and the FAULT behind a 0 */
    private static void everyByteBehindADigit() {
        for (int sign = 0; sign < 256; sign++) {
            boolean digit = sign >= '0' && sign <= '9';
            if (digit) {
                right("e2" + (char) sign, 20 + sign - '0');
            } else {
                fault("e2" + (char) sign, LETTERS.indexOf(sign) >= 0 ? 3 : 2);
            }
            if (digit && sign != '0') {
                right("e0" + (char) sign, sign - '0');
            } else {
                fault("e0" + (char) sign, 2);
            }
        }
    }

    /** "1 or 2 digits": a third is none of it */
    private static void everyByteBehindTwoDigits() {
        for (int sign = 0; sign < 256; sign++) {
            boolean letter = LETTERS.indexOf(sign) >= 0;
            fault("w12" + (char) sign, letter ? 4 : 3);
            fault("w01" + (char) sign, letter ? 4 : 3);
        }
    }

    /** "05 is 5; 1 at least: so many STROKES" */
    private static void numbers() {
        for (int n = 1; n < 100; n++) {
            right("l" + n, n);
            if (n < 10) {
                right("l0" + n, n);
            }
        }
    }

    /** "of 0 the byte behind it is the FAULT, of 00 the second 0" */
    private static void noughts() {
        fault("r0", 2);
        fault("r0s1", 2);
        fault("r0 ", 2);
        fault("r00", 2);
        fault("r00s1", 2);
        fault("r005", 2);
        fault("r1s0", 4);
        fault("r1s0r1", 4);
        fault("r1s00", 4);
        fault("r11s00r", 5);
        right("r1s01", 2);
        right("r1s10", 11);
    }

    /** "Nothing stands between." */
    private static void nothingBetween() {
        fault(" r1", 0);
        fault("r 1", 1);
        fault("r1 ", 2);
        fault("r1 s1", 2);
        fault("r1\ns1", 2);
        fault("r1;s1", 2);
        fault("r12 s1", 3);
    }

    /** "All together 200 STROKES at most." */
    private static void strokesAtMost() {
        right("r99r99r1", 199);
        right("r99r99r2", 200);
        right("r99r99r02", 200);
        right("r99r99r1s1", 200);
        right("r17".repeat(11) + "x13", 200);
        right("r99r2x99", 200);
        right("r2r99x99", 200);
    }

    /** "of a number that makes it more than 200 STROKES its first digit" */
    private static void moreThan200() {
        fault("r99r99r3", 7);
        fault("r99r99r9", 7);
        fault("r99r99r03", 7);
        fault("r99r99r1s2", 9);
        fault("r99r3x99", 6);
        fault("r17".repeat(11) + "x14", 34);
        fault("r99r99r3?", 7);
        fault("r99r99r3s0", 7);
    }

    /** The same of two digits, though the first alone would not be too much. */
    private static void moreThan200InTwoDigits() {
        fault("r99r99r10", 7);
        fault("r99r99r20", 7);
        fault("r99r99r2r10", 9);
        fault("r99r99x19s1", 7);
        fault("r99r2x99?", 8);
        fault("r99r99r100", 7);
    }

    /** Behind 200 STROKES: a number that is 0 makes it no more, any other one does. */
    private static void behind200() {
        fault("r99r99r2r1", 9);
        fault("r99r99r2r01", 9);
        fault("r99r99r2r0", 10);
        fault("r99r99r2r00", 10);
        fault("r99r99r2r?", 9);
        fault("r99r99r2r", 9);
        fault("r99r99r2?", 8);
        fault("r17".repeat(10) + "r15r15" + "r1", 36);
    }

    /** "THE TAPE's size, if it ends too early" */
    private static void endsTooEarly() {
        fault("r", 1);
        fault("r1s", 3);
        fault("r12s", 4);
        fault("r12s0", 5);
        fault("r1".repeat(11) + "e", 23);
    }

    /** "the place of the first byte with which no PLAN goes on" */
    private static void theFirstFault() {
        fault("?", 0);
        fault("rr", 1);
        fault("1", 0);
        fault("r1??", 2);
        fault("r0??", 2);
        fault("r1R1", 2);
        fault("r1a1", 2);
        fault("r-1", 1);
        fault("r1-", 2);
        fault("r+1", 1);
        fault("r1" + "\0", 2);
        fault("r1" + (char) ('1' + 128), 2);
        fault("" + (char) ('r' + 128) + "1", 0);
        fault("r1".repeat(70) + "?", 24);
        fault("?".repeat(160), 0);
    }

    /** "THE TAPE, which is empty then (by a FAULT, too)" */
    private static void tapeBehindAFault() {
        EightOars x = new EightOars();
        Due.is("a FAULT", Due.plan(x, "r5s"), -103);
        Due.is("empty", x.count(4), 0);
        Due.is("read again", x.plan(), -100);
        Due.is("a PLAN", Due.plan(x, "r1"), 0);
        Due.is("empty", x.count(4), 0);
        Due.is("no second one", x.plan(), -100);
        Due.is("PLANS", x.count(2), 1);
    }

    /** A plan is of what was fed since, whatever was read ahead of it. */
    private static void plansOneBehindAnother() {
        EightOars x = new EightOars();
        Due.is("a FAULT behind 198 STROKES", Due.plan(x, "e99e99?"), -106);
        Due.is("no STROKES of it", x.planned(0, 0), -1);
        Due.is("a PLAN", Due.plan(x, "x3"), 0);
        Due.is("of three", x.planned(0, -1), 3);
        Due.is("behind the third", x.planned(0, 3), -1);
        Due.is("a FAULT", Due.plan(x, "w99w99w9"), -107);
        Due.is("a PLAN", Due.plan(x, "l2s99s99"), 1);
        Due.is("of 200", x.planned(1, -1), 200);
        Due.is("its first", x.planned(1, 0), 3);
        Due.is("its third", x.planned(1, 2), 1);
        Due.is("its last", x.planned(1, 199), 1);
        Due.is("the one ahead", x.planned(0, 2), 2);
    }

    /** "PLANS (8 at most, numbered from 0)" */
    private static void eightPlans() {
        EightOars x = new EightOars();
        Due.is("none", x.count(2), 0);
        for (int i = 0; i < 8; i++) {
            Due.is("no PLAN " + i, x.planned(i, -1), -1);
            Due.is("PLAN " + i, Due.plan(x, "r" + (i + 1)), i);
            Due.is("PLANS", x.count(2), i + 1);
        }
        Due.is("the ninth", Due.plan(x, "r9"), -4);
        Due.is("eight", x.count(2), 8);
        Due.is("no PLAN 8", x.planned(8, -1), -1);
        for (int i = 0; i < 8; i++) {
            Due.is("STROKES of " + i, x.planned(i, -1), i + 1);
        }
    }

    /** "FULL (ahead of all): no PLAN more has room (THE TAPE stays)." */
    private static void fullAheadOfAll() {
        EightOars x = new EightOars();
        for (int i = 0; i < 8; i++) {
            Due.plan(x, "r1");
        }
        Due.is("an empty tape", x.plan(), -4);
        Due.feed(x, "give 1;drag 1;");
        Due.is("a FAULT", x.plan(), -4);
        Due.is("the tape stays", x.count(4), 14);
        Due.is("as it was", x.text(), 1);
    }

    /** "Of a PLAN how many STROKES (i = -1); KIND of the i-th. NONE: none such." */
    private static void strokesPlanned() {
        EightOars x = new EightOars();
        Due.plan(x, "x1");
        Due.plan(x, "x99x99e2");
        Due.is("how many", x.planned(0, -1), 1);
        Due.is("the first", x.planned(0, 0), 2);
        Due.is("none behind it", x.planned(0, 1), -1);
        Due.is("i -2", x.planned(0, -2), -1);
        Due.is("how many", x.planned(1, -1), 200);
        Due.is("the 198th", x.planned(1, 197), 2);
        Due.is("the 199th", x.planned(1, 198), 5);
        Due.is("the last", x.planned(1, 199), 5);
        Due.is("none behind it", x.planned(1, 200), -1);
        Due.is("PLAN -1", x.planned(-1, -1), -1);
        Due.is("PLAN 2", x.planned(2, -1), -1);
        Due.is("PLAN 2, the first", x.planned(2, 0), -1);
    }

    /** "KIND of the i-th" */
    private static void kindsPlanned() {
        EightOars x = new EightOars();
        Due.plan(x, "e1w2l1x2s1r2e1");
        int[] due = {5, 4, 4, 3, 2, 2, 1, 0, 0, 5};
        for (int i = 0; i < due.length; i++) {
            Due.is("KIND of " + i, x.planned(0, i), due[i]);
        }
    }

    /** "taken for one of KIND k (0 .. 5), or one under that one (also by others between): i" */
    private static void takenForAKind() {
        EightOars x = new EightOars();
        Due.plan(x, "r1s1x1l1w1e1");
        int[][] upper = {{0}, {1, 0}, {2, 0}, {3, 0}, {4, 3, 0}, {5, 1, 0}};
        for (int i = 0; i < 6; i++) {
            for (int k = 0; k < 6; k++) {
                boolean under = false;
                for (int one : upper[i]) {
                    under |= one == k;
                }
                Due.is("KIND " + i + " for " + k, x.taken(0, i, k), under ? i : -13);
            }
        }
    }

    /** "BAD: k; -11: no such STROKE; -13." */
    private static void takenRefusals() {
        EightOars x = new EightOars();
        Due.is("k -1 of nothing", x.taken(0, 0, -1), -2);
        Due.is("k 6 of nothing", x.taken(0, 0, 6), -2);
        Due.is("no PLAN", x.taken(0, 0, 0), -11);
        Due.plan(x, "r99r99r2");
        Due.is("k -1", x.taken(0, 0, -1), -2);
        Due.is("k 6", x.taken(0, 0, 6), -2);
        Due.is("k 5", x.taken(0, 0, 5), -13);
        Due.is("k 0", x.taken(0, 0, 0), 0);
        Due.is("STROKE -1", x.taken(0, -1, 0), -11);
        Due.is("the last", x.taken(0, 199, 0), 199);
        Due.is("STROKE 200", x.taken(0, 200, 0), -11);
        Due.is("STROKE 200 for another KIND", x.taken(0, 200, 1), -11);
        Due.is("PLAN 1", x.taken(1, 0, 0), -11);
        Due.is("PLAN -1", x.taken(-1, 0, 0), -11);
    }
}
