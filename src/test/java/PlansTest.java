/** Promises 11, 12 and 33: plan, planned, taken. */
public final class PlansTest {
    public static void main(String[] args) {
        plans();
        faults();
        fullPlans();
        plannedStrokes();
        takenStrokes();
        Due.end();
    }

    private static void plans() {
        String[] right = {"r1", "s05", "x99l99w2", "e1r1e1r1e1r1e1r1e1r1e1r1", "r99r99r02"};
        int[] sizes = {1, 5, 200, 12, 200};
        EightOars x = new EightOars();
        for (int i = 0; i < right.length; i++) {
            Due.is(right[i], Due.plan(x, right[i]), i);
            Due.is("STROKES of " + right[i], x.planned(i, -1), sizes[i]);
            Due.is("the tape is empty", x.count(4), 0);
        }
        Due.is("PLANS", x.count(2), 5);
    }

    private static void fault(String plan, int place) {
        EightOars x = new EightOars();
        Due.is(plan, Due.plan(x, plan), -100 - place);
        Due.is("PLANS of " + plan, x.count(2), 0);
        Due.is("the tape behind " + plan, x.count(4), 0);
    }

    private static void faults() {
        fault("", 0);
        fault("r", 1);
        fault("1", 0);
        fault("a1", 0);
        fault("R1", 0);
        fault(" r1", 0);
        fault("r 1", 1);
        fault("r1 ", 2);
        fault("rr1", 1);
        fault("r0", 2);
        fault("r0s1", 2);
        fault("r00", 2);
        fault("r005", 2);
        fault("r123", 3);
        fault("r1s", 3);
        fault("r1-", 2);
        fault("r1\u00f2", 2);
        fault("e1r1e1r1e1r1e1r1e1r1e1r1r1", 24);
        fault("r99r99r3", 7);
        fault("r99r99r20", 7);
        fault("r99r99r03", 7);
        fault("r99r99r99z", 7);
        fault("r99r99r2r1", 9);
        fault("r99r99r2r00", 10);
        fault("r99r99r1z", 8);
    }

    private static void fullPlans() {
        EightOars x = new EightOars();
        for (int i = 0; i < 8; i++) {
            Due.is("PLAN " + i, Due.plan(x, "r1"), i);
        }
        Due.is("FULL ahead of a FAULT", x.plan(), -4);
        Due.feed(x, "r1");
        Due.is("no room", x.plan(), -4);
        Due.is("the tape stays", x.count(4), 2);
        Due.is("PLANS", x.count(2), 8);
    }

    private static void plannedStrokes() {
        EightOars x = new EightOars();
        Due.plan(x, "e2w1l1x1s1r1");
        int[] kinds = {5, 5, 4, 3, 2, 1, 0};
        for (int i = 0; i < kinds.length; i++) {
            Due.is("KIND of the " + i + "-th", x.planned(0, i), kinds[i]);
        }
        Due.is("behind the last", x.planned(0, 7), -1);
        Due.is("the -2nd", x.planned(0, -2), -1);
        Due.is("no PLAN 1", x.planned(1, -1), -1);
        Due.is("no PLAN -1", x.planned(-1, 0), -1);
        Due.is("far away", x.planned(0, Integer.MAX_VALUE), -1);
    }

    private static void takenStrokes() {
        EightOars x = new EightOars();
        Due.plan(x, "r1s1x1l1w1e1");
        String[] under = {"100000", "110000", "101000", "100100", "100110", "110001"};
        for (int i = 0; i < 6; i++) {
            for (int k = 0; k < 6; k++) {
                Due.is("stroke " + i + " for " + k, x.taken(0, i, k),
                        under[i].charAt(k) == '1' ? i : -13);
            }
        }
        Due.is("k 6", x.taken(0, 0, 6), -2);
        Due.is("k -1", x.taken(0, 0, -1), -2);
        Due.is("k ahead of the STROKE", x.taken(5, 9, 6), -2);
        Due.is("no STROKE", x.taken(0, 6, 0), -11);
        Due.is("STROKE -1", x.taken(0, -1, 0), -11);
        Due.is("no PLAN", x.taken(1, 0, 0), -11);
        Due.is("PLAN -1", x.taken(-1, 0, 0), -11);
    }
}
