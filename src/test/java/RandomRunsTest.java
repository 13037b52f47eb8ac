import java.util.Random;

/**
 * Runs of some 500 calls, the same ones each time, on the class and on PlainOars: all promises at
 * once, with numbers of all sizes. It also fails if a call throws.
 */
public final class RandomRunsTest {
    private static final int RUNS = 100, CALLS = 512, DEAREST_STEP = 24;
    private static final String[] BITS = {"give ", "drag ", ";", " ", "\n", "(", ")", "-", "+", "*",
        "<", "=", " or ", " and ", " not ", "force", "store", "seat", "gear", "speed", "stroke", "7",
        "9999", "12345", "x", "?", "r1", "0"};

    private final Random random;
    private final EightOars x = new EightOars();
    private final PlainOars y = new PlainOars();
    private int used;

    private RandomRunsTest(long seed) {
        random = new Random(seed);
    }

    public static void main(String[] args) {
        int runs = args.length > 0 ? Integer.parseInt(args[0]) : RUNS;
        for (int run = 0; run < 20 * runs; run++) {
            new RandomRunsTest(-1 - run).reading();
        }
        for (int run = 0; run < runs; run++) {
            RandomRunsTest r = new RandomRunsTest(run);
            if (run % 3 == 0) {
                r.prepare();
            }
            // a text of 160 bytes takes 20 calls, and one to read it
            while (r.used <= CALLS - DEAREST_STEP) {
                r.step("run " + run + ", call " + r.used);
            }
        }
        Due.end();
    }

    /** Runs that begin with a full boat come to rows and pieces sooner. */
    private void prepare() {
        for (int i = 0; i < 10; i++) {
            int[] told = {40 + random.nextInt(81), 1 + random.nextInt(99), random.nextInt(600), random.nextInt(40)};
            Due.is("rower", x.rower(told[0], told[1], told[2], told[3]), y.rower(told[0], told[1], told[2], told[3]));
            Due.is("sit", x.sit(i, i), y.sit(i, i));
            int gear = 1 + random.nextInt(9);
            Due.is("rig", x.rig(i, 1, gear), y.rig(i, 1, gear));
            used += 3;
        }
    }

    /** Texts and plans alone, each until there is no room, and what they come to. */
    private void reading() {
        prepare();
        for (int i = 0; i < 12; i++) {
            String text = someText();
            feedBoth(text);
            Due.is(text, x.text(), y.text());
            String plan = somePlan();
            feedBoth(plan);
            Due.is(plan, x.plan(), y.plan());
            int rule = y.count(3) - 1;
            Due.is("force", x.force(rule), y.force(rule));
            Due.is("planned", x.planned(0, -1), y.planned(0, -1));
            if (y.planned(0, -1) < 40) {
                for (int what = 0; what < 5; what++) {
                    Due.is("row by " + text, x.row(0, what), y.row(0, what));
                }
            }
        }
    }

    /** Mostly from least to most, a little beside it at times, and far away at times. */
    private int in(int least, int most) {
        int dice = random.nextInt(60);
        if (dice == 0) {
            return random.nextBoolean() ? Integer.MAX_VALUE : Integer.MIN_VALUE;
        }
        if (dice == 1) {
            return random.nextInt();
        }
        if (dice < 4) {
            return random.nextBoolean() ? least - 1 : most + 1;
        }
        if (dice < 8) {
            return random.nextBoolean() ? least : most;
        }
        return least + random.nextInt(most - least + 1);
    }

    private int inside(int n) {
        return in(0, Math.max(0, n - 1));
    }

    private void feedBoth(String text) {
        for (int from = 0; from < text.length(); from += 8) {
            int n = Math.min(8, text.length() - from);
            long bytes = random.nextLong();
            for (int i = n - 1; i >= 0; i--) {
                bytes = bytes << 8 | text.charAt(from + i);
            }
            Due.is("feed", x.feed(n, bytes), y.feed(n, bytes));
            used++;
        }
    }

    private String expression(int deep) {
        int dice = random.nextInt(deep > 3 ? 4 : 14);
        switch (dice) {
            case 0: return String.valueOf(random.nextInt(random.nextInt(3) == 0 ? 10000 : 30));
            case 1: case 2: case 3: return BITS[15 + random.nextInt(6)];
            case 4: return "- " + expression(deep + 1);
            case 5: return "(" + expression(deep + 1) + ")";
            case 6: return "(not " + expression(deep + 1) + ")";
            case 7: return expression(deep + 1) + "<" + expression(deep + 1);
            case 8: return expression(deep + 1) + "=" + expression(deep + 1);
            case 9: return expression(deep + 1) + " and " + expression(deep + 1);
            case 10: return expression(deep + 1) + " or not " + expression(deep + 1);
            case 11: return expression(deep + 1) + "+" + expression(deep + 1);
            case 12: return expression(deep + 1) + "-" + expression(deep + 1);
            default: return expression(deep + 1) + " * " + expression(deep + 1);
        }
    }

    private String someText() {
        String text = "give " + expression(1) + " ;\ndrag " + expression(1) + ";";
        if (random.nextInt(2) == 0) {
            int at = random.nextInt(text.length() + 1);
            int to = Math.min(text.length(), at + random.nextInt(3));
            text = text.substring(0, at) + BITS[random.nextInt(BITS.length)] + text.substring(to);
        }
        return text.length() > 160 ? "" : text;
    }

    private String somePlan() {
        StringBuilder plan = new StringBuilder();
        int parts = 1 + random.nextInt(random.nextInt(4) == 0 ? 14 : 4);
        for (int i = 0; i < parts; i++) {
            plan.append("rsxlwe".charAt(random.nextInt(6)));
            plan.append(random.nextInt(random.nextInt(5) == 0 ? 100 : 12));
        }
        if (random.nextInt(3) == 0) {
            plan.setCharAt(random.nextInt(plan.length()), "r09 z\u00e5".charAt(random.nextInt(6)));
        }
        return plan.toString();
    }

    private void step(String at) {
        int call = random.nextInt(34);
        used++;
        String name = at + ", of kind " + call;
        if (call < 6) {
            rowersAndSeats(name, call);
        } else if (call < 11) {
            textsAndPlans(name, call);
        } else if (call < 18) {
            rows(name, call);
        } else if (call < 27) {
            piecesAndRaces(name, call);
        } else {
            host(name, call);
        }
    }

    private void rowersAndSeats(String name, int call) {
        int a = in(0, 7);
        switch (call) {
            case 0: {
                int w = in(40, 120), f = in(1, 99), s = in(0, 9999), i = in(0, 99);
                Due.is(name, x.rower(w, f, s, i), y.rower(w, f, s, i));
                break;
            }
            case 1: {
                int r = inside(y.count(0)), what = in(0, 4);
                Due.is(name, x.rowerTold(r, what), y.rowerTold(r, what));
                break;
            }
            case 2: {
                int r = in(-1, y.count(0));
                Due.is(name, x.sit(a, r), y.sit(a, r));
                break;
            }
            case 3: {
                int what = in(0, 1), v = what == 0 ? in(0, 1) : in(1, 9);
                Due.is(name, x.rig(a, what, v), y.rig(a, what, v));
                break;
            }
            case 4: {
                int what = in(0, 1), v = what == 0 ? in(1, random.nextBoolean() ? 999 : 50) : in(-99, 99);
                Due.is(name, x.water(what, v), y.water(what, v));
                break;
            }
            default: {
                int kind = in(0, 5), g = in(0, random.nextBoolean() ? 12 : 999), what = in(0, 2);
                Due.is(name, x.stroke(kind, g, a, what), y.stroke(kind, g, a, what));
                break;
            }
        }
    }

    private void textsAndPlans(String name, int call) {
        switch (call) {
            case 6: {
                int n = in(1, 8);
                long bytes = random.nextLong();
                if (random.nextInt(20) == 0) {
                    Due.is(name, x.feed(n, bytes), y.feed(n, bytes));
                }
                break;
            }
            case 7: {
                feedBoth(someText());
                Due.is(name, x.text(), y.text());
                break;
            }
            case 8: {
                int text = inside(y.count(3));
                Due.is(name, x.force(text), y.force(text));
                break;
            }
            case 9: {
                feedBoth(somePlan());
                Due.is(name, x.plan(), y.plan());
                break;
            }
            default: {
                int plan = inside(y.count(2)), i = in(-1, Math.max(0, y.planned(plan, -1)));
                Due.is(name, x.planned(plan, i), y.planned(plan, i));
                break;
            }
        }
    }

    private void rows(String name, int call) {
        int plan = inside(y.count(2));
        switch (call) {
            case 11: {
                int what = in(0, 4);
                Due.is(name, x.row(plan, what), y.row(plan, what));
                break;
            }
            case 12: {
                int r = inside(y.count(0));
                Due.is(name, x.left(plan, r), y.left(plan, r));
                break;
            }
            case 13: {
                Due.is(name, x.rown(plan), y.rown(plan));
                break;
            }
            case 14: {
                int seats = random.nextInt(10) == 0 ? in(0, 99) : 10 * random.nextInt(8) + random.nextInt(8);
                Due.is(name, x.more(plan, seats), y.more(plan, seats));
                break;
            }
            case 15: {
                int what = in(0, 1);
                if (random.nextInt(6) == 0) {
                    Due.is(name, x.change(plan, what), y.change(plan, what));
                }
                break;
            }
            case 16: {
                int what = in(0, 2);
                Due.is(name, x.order(what), y.order(what));
                break;
            }
            default: {
                int n = in(1, random.nextInt(10) == 0 ? 60 : 12), k = in(0, Math.min(60, Math.max(0, n)));
                int what = in(0, 1);
                Due.is(name, x.spurts(n, k, what), y.spurts(n, k, what));
                break;
            }
        }
    }

    private int someBits(int most) {
        int n = Math.min(most, y.count(6));
        int bits = n == 0 ? 0 : random.nextInt(1 << n);
        for (int i = random.nextInt(4); i > 0; i--) {
            bits &= random.nextInt();
        }
        return random.nextInt(30) == 0 ? random.nextInt() : bits & (1 << 30) - 1;
    }

    private void piecesAndRaces(String name, int call) {
        int a = inside(y.count(0)), b = inside(y.count(0));
        switch (call) {
            case 18: {
                int near = random.nextInt(3) == 0 ? 9999 : 30;
                int f = in(-near, near), s = in(0, random.nextInt(3) == 0 ? 999 : 20);
                Due.is(name, x.piece(a, b, f, s), y.piece(a, b, f, s));
                break;
            }
            case 19: {
                int bits = someBits(30), what = in(0, 1);
                Due.is(name, x.worth(a, b, bits, what), y.worth(a, b, bits, what));
                break;
            }
            case 20: {
                int bits = someBits(random.nextInt(6) == 0 ? 13 : 12);
                Due.is(name, x.go(bits), y.go(bits));
                break;
            }
            case 21: {
                int sheet = in(0, 3);
                if (random.nextInt(3) > 0) {
                    int sort = in(0, 2);
                    Due.is(name, x.sheet(sheet, sort, 6), y.sheet(sheet, sort, 6));
                    for (int i = 0; i < 6; i++) {
                        int t = random.nextInt(4) == 0 ? 0 : in(0, random.nextBoolean() ? 9 : 9999);
                        Due.is(name, x.cell(sheet, i, t), y.cell(sheet, i, t));
                    }
                    used += 7;
                }
                Due.is(name, x.race(sheet), y.race(sheet));
                break;
            }
            case 22: {
                int one = in(0, 5), other = in(0, 5), part = in(0, 1);
                Due.is(name, x.lanes(one, other, part), y.lanes(one, other, part));
                break;
            }
            case 23: {
                Due.is(name, x.fair(), y.fair());
                break;
            }
            case 24: {
                Due.is(name, x.image(), y.image());
                break;
            }
            case 25: {
                Due.is(name, x.back(), y.back());
                break;
            }
            default: {
                int what = in(0, 8);
                Due.is(name, x.count(what), y.count(what));
                break;
            }
        }
    }

    private void host(String name, int call) {
        int sheet = in(0, 3);
        switch (call) {
            case 27: case 28: {
                int sort = in(random.nextInt(4) == 0 ? -1 : 0, 2), n = in(0, 40);
                Due.is(name, x.sheet(sheet, sort, n), y.sheet(sheet, sort, n));
                break;
            }
            case 29: case 30: {
                int i = in(0, random.nextBoolean() ? 8 : 40);
                int v = random.nextBoolean() ? in(0, 5) : random.nextInt();
                Due.is(name, x.cell(sheet, i, v), y.cell(sheet, i, v));
                break;
            }
            case 31: {
                int other = in(0, 3), i = in(0, 12), j = in(0, 12), n = in(0, 12);
                Due.is(name, x.copy(sheet, i, other, j, n), y.copy(sheet, i, other, j, n));
                break;
            }
            case 32: {
                int sort = in(0, 2), from = in(0, 9), n = in(0, 10);
                Due.is(name, x.pieces(sheet, sort, from, n), y.pieces(sheet, sort, from, n));
                break;
            }
            default: {
                int plan = inside(y.count(2)), i = inside(y.planned(plan, -1)), k = in(0, 5);
                Due.is(name, x.taken(plan, i, k), y.taken(plan, i, k));
                break;
            }
        }
    }
}
