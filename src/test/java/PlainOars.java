import java.util.ArrayList;
import java.util.Arrays;
import java.util.List;

/**
 * The document written down a second time, by other ways than the class goes and with no care for
 * speed: texts are judged by a machine of states and valued by splitting them at their weakest
 * sign, worths come of all paths, the fewest pieces of all sets.
 */
final class PlainOars {
    static final long NO = EightOars.NO;

    private static final class Rower {
        int weight, force, store, fills;
    }

    private static final class Piece {
        int a, b, farther, slip;
    }

    private final List<Rower> rowers = new ArrayList<>();
    private Integer[] seats = new Integer[8];
    private int[] sides = {0, 1, 0, 1, 0, 1, 0, 1};
    private int[] gears = {4, 4, 4, 4, 4, 4, 4, 4};
    private int drag = 20, wind = 0, rule = 0;
    private String tape = "";
    private final List<String> texts = new ArrayList<>(List.of("give force + gear ; drag speed * 2 ;"));
    private final List<List<String>> tokensOf = new ArrayList<>();
    private final List<String> plans = new ArrayList<>();
    private final List<Piece> pieces = new ArrayList<>();
    private final List<int[]> races = new ArrayList<>();
    private final Object[] sheets = new Object[4];
    private Object[] kept = null;

    private long way, turn, lost, slipped;
    private int speed;
    private int[] after;

    // ---- rowers, seats

    int rower(int weight, int force, int store, int fills) {
        if (weight < 40 || weight > 120 || force < 1 || force > 99) return -2;
        if (store < 0 || store > 9999 || fills < 0 || fills > 99) return -2;
        if (rowers.size() == 16) return -4;
        Rower r = new Rower();
        r.weight = weight;
        r.force = force;
        r.store = store;
        r.fills = fills;
        rowers.add(r);
        return rowers.size() - 1;
    }

    private boolean isRower(int r) {
        return r >= 0 && r < rowers.size();
    }

    int rowerTold(int rower, int what) {
        if (!isRower(rower) || what < 0 || what > 4) return -5;
        Rower r = rowers.get(rower);
        return new int[] {r.weight, r.force, r.store, r.fills, Arrays.asList(seats).indexOf(rower)}[what];
    }

    int sit(int seat, int rower) {
        if (seat < 0 || seat > 7 || rower < -1 || rower >= rowers.size()) return -5;
        Integer was = seats[seat];
        for (int s = 0; s < 8; s++) {
            if (seats[s] != null && seats[s] == rower) seats[s] = null;
        }
        seats[seat] = rower == -1 ? null : Integer.valueOf(rower);
        return was == null ? -1 : was;
    }

    int rig(int seat, int what, int v) {
        if (seat < 0 || seat > 7 || what < 0 || what > 1) return -2;
        if (what == 0 ? v < 0 || v > 1 : v < 1 || v > 9) return -2;
        int[] row = what == 0 ? sides : gears;
        int was = row[seat];
        row[seat] = v;
        return was;
    }

    int water(int what, int v) {
        int was = what == 0 ? drag : wind;
        if (what == 0 && v >= 1 && v <= 999) drag = v;
        else if (what == 1 && v >= -99 && v <= 99) wind = v;
        else return -1000;
        return was;
    }

    private static int pull(int kind, int g, int seat) {
        if (kind == 1) return 2 * pull(0, g, seat) / 3;
        if (kind == 2) return pull(0, g, seat) * 5 / 4;
        if (kind == 3) return seat == 0 ? pull(0, g, seat) / 2 : pull(0, g, seat);
        if (kind == 4) return pull(3, g, seat) < 3 ? 0 : pull(3, g, seat) - 3;
        if (kind == 5) return pull(1, g, seat) / 2;
        return g;
    }

    private static int cost(int kind, int g) {
        if (kind == 1) return cost(0, g) + 5;
        if (kind == 2) return cost(0, g) * 2;
        if (kind == 3) return cost(0, g);
        if (kind == 4) return cost(3, g) + 2;
        if (kind == 5) return cost(1, g) / 3;
        return g;
    }

    private static int slipsOf(int kind) {
        return "001350".charAt(kind) - '0';
    }

    int stroke(int kind, int g, int seat, int what) {
        if (kind < 0 || kind > 5 || g < 0 || g > 999 || seat < 0 || seat > 7) return -2;
        if (what == 0) return pull(kind, g, seat);
        if (what == 1) return cost(kind, g);
        return what == 2 ? slipsOf(kind) : -2;
    }

    // ---- texts, plans

    int feed(int n, long bytes) {
        if (n < 1 || n > 8) return -2;
        if (tape.length() + n > 160) return -4;
        for (int i = 0; i < n; i++) tape += (char) (bytes >>> 8 * i & 255);
        return tape.length();
    }

    int text() {
        if (texts.size() == 6) return -4;
        String told = tape;
        tape = "";
        int fault = textFault(told);
        if (fault >= 0) return -100 - fault;
        texts.add(told);
        return texts.size() - 1;
    }

    /** The tokens, then the end; their places come to a list. */
    private static List<String> tokens(String text, List<Integer> places) {
        List<String> found = new ArrayList<>();
        java.util.regex.Matcher m =
                java.util.regex.Pattern.compile("[a-z]+|[0-9]+|[^a-z0-9 \n]").matcher(text);
        while (m.find()) {
            found.add(m.group());
            places.add(m.start());
        }
        found.add("end");
        places.add(text.length());
        return found;
    }

    private static final List<String> NAMES = List.of("force", "store", "seat", "gear", "speed", "stroke");

    private static boolean isOperand(String token) {
        return NAMES.contains(token) || token.length() < 5 && token.charAt(0) >= '0' && token.charAt(0) <= '9';
    }

    /** One open parenthesis (or the whole E), and what is open in it. */
    private static final class Frame {
        int nots, minuses;
        boolean compared, notFits = true;
    }

    static int textFault(String text) {
        List<Integer> places = new ArrayList<>();
        List<String> all = tokens(text, places);
        int at = 0;
        for (String key : new String[] {"give", "drag"}) {
            if (!all.get(at).equals(key)) return places.get(at);
            at = behindE(all, at + 1);
            if (at < 0 || !all.get(at).equals(";")) return places.get(Math.abs(at));
            at++;
        }
        return at == all.size() - 1 ? -1 : places.get(at);
    }

    /** Where the token behind an E stands, or less that of the first fault. */
    private static int behindE(List<String> all, int from) {
        List<Frame> frames = new ArrayList<>(List.of(new Frame()));
        boolean wanted = true;
        for (int at = from;; at++) {
            String t = all.get(at);
            Frame top = frames.get(frames.size() - 1);
            int open = frames.size() - 1;
            for (Frame f : frames) open += f.nots + f.minuses;
            if (wanted) {
                if (isOperand(t)) {
                    top.minuses = 0;
                    wanted = false;
                } else if (open >= 5) {
                    return -at;
                } else if (t.equals("-")) {
                    top.minuses++;
                    top.notFits = false;
                } else if (t.equals("(")) {
                    frames.add(new Frame());
                } else if (t.equals("not") && top.notFits) {
                    top.nots++;
                } else {
                    return -at;
                }
                continue;
            }
            top.notFits = false;
            wanted = true;
            if (t.equals(")") && frames.size() > 1) {
                frames.remove(frames.size() - 1);
                frames.get(frames.size() - 1).minuses = 0;
                wanted = false;
            } else if (t.equals("<") || t.equals("=")) {
                if (top.compared) return -at;
                top.compared = true;
            } else if (t.equals("and") || t.equals("or")) {
                top.compared = false;
                top.nots = 0;
                top.notFits = true;
            } else if (!t.matches("[-+*]")) {
                return frames.size() > 1 ? -at : at;
            }
        }
    }

    static int value(List<String> e, int[] names) {
        for (String weakest : new String[] {"or", "and"}) {
            int at = lastOf(e, weakest);
            if (at >= 0) {
                boolean one = value(e.subList(0, at), names) != 0;
                boolean other = value(e.subList(at + 1, e.size()), names) != 0;
                return (weakest.equals("or") ? one | other : one & other) ? 1 : 0;
            }
        }
        if (e.get(0).equals("not")) return value(e.subList(1, e.size()), names) == 0 ? 1 : 0;
        for (String signs : new String[] {"<=", "+-", "*"}) {
            int at = lastOf(e, signs);
            if (at < 0) continue;
            int one = value(e.subList(0, at), names);
            int other = value(e.subList(at + 1, e.size()), names);
            switch (e.get(at)) {
                case "<": return one < other ? 1 : 0;
                case "=": return one == other ? 1 : 0;
                case "+": return one + other;
                case "-": return one - other;
                default: return one * other;
            }
        }
        String first = e.get(0);
        if (first.equals("-")) return -value(e.subList(1, e.size()), names);
        if (first.equals("(")) return value(e.subList(1, e.size() - 1), names);
        int name = NAMES.indexOf(first);
        return name >= 0 ? names[name] : Integer.parseInt(first);
    }

    private static int lastOf(List<String> e, String wanted) {
        int deep = 0;
        for (int at = e.size() - 1; at > 0; at--) {
            String t = e.get(at);
            if (t.equals(")")) deep++;
            if (t.equals("(")) deep--;
            if (deep != 0 || !t.equals(wanted) && (t.length() > 1 || !wanted.contains(t))) continue;
            if (isOperand(e.get(at - 1)) || e.get(at - 1).equals(")")) return at;
        }
        return -1;
    }

    private int ruled(String key, int[] names) {
        while (tokensOf.size() <= rule) tokensOf.add(tokens(texts.get(tokensOf.size()), new ArrayList<>()));
        List<String> all = tokensOf.get(rule);
        int from = all.indexOf(key) + 1;
        int to = from;
        while (!all.get(to).equals(";")) to++;
        return value(all.subList(from, to), names);
    }

    int force(int text) {
        if (text < 0 || text >= texts.size()) return -2;
        int was = rule;
        rule = text;
        return was;
    }

    int plan() {
        if (plans.size() == 8) return -4;
        String told = tape;
        tape = "";
        String kinds = "";
        java.util.regex.Pattern part = java.util.regex.Pattern.compile("([rsxlwe])(0?[1-9]|[1-9][0-9])");
        int at = 0;
        for (int n = 0; n < 12; n++) {
            java.util.regex.Matcher m = part.matcher(told).region(at, told.length());
            if (!m.lookingAt()) break;
            int end = m.end();
            // a number is as long as it can be
            if (end < told.length() && end == at + 2 && Character.digit(told.charAt(end), 10) >= 0
                    && told.charAt(end) < 128) {
                end++;
            }
            int number = Integer.parseInt(told.substring(at + 1, end));
            if (kinds.length() + number > 200) return -100 - at - 1;
            kinds += String.valueOf("rsxlwe".indexOf(told.charAt(at))).repeat(number);
            at = end;
            if (at == told.length()) {
                plans.add(kinds);
                return plans.size() - 1;
            }
            if (n == 11) return -100 - at;
        }
        String rest = told.substring(at);
        if (!rest.matches("(?s)[rsxlwe].*")) return -100 - at;
        if (!rest.matches("(?s).[0-9].*")) return -100 - at - 1;
        return -100 - at - 2;
    }

    int planned(int plan, int i) {
        if (plan < 0 || plan >= plans.size() || i < -1 || i >= plans.get(plan).length()) return -1;
        return i == -1 ? plans.get(plan).length() : plans.get(plan).charAt(i) - '0';
    }

    // ---- rows

    private void rowIt(String kinds, Integer[] sitting) {
        speed = 0;
        way = turn = lost = slipped = 0;
        after = new int[rowers.size()];
        for (int i = 0; i < after.length; i++) after[i] = rowers.get(i).store;
        for (int n = 0; n < kinds.length(); n++) oneStroke(kinds.charAt(n) - '0', n, sitting);
    }

    private void oneStroke(int kind, int n, Integer[] sitting) {
        Integer bow = sitting[0];
        int[] names = {bow == null ? 0 : rowers.get(bow).force, bow == null ? 0 : after[bow], 0,
            gears[0], speed, n};
        int dragged = Math.min(99999, Math.max(0, ruled("drag", names)));
        int water = Math.max(0, dragged * drag / 100 + wind);
        int drives = 0;
        int weights = 200;
        for (int seat = 0; seat < 8; seat++) {
            if (sitting[seat] == null) continue;
            int who = sitting[seat];
            Rower r = rowers.get(who);
            int g = ruled("give", new int[] {r.force, after[who], seat, gears[seat], speed, n});
            g = Math.min(999, Math.max(0, g));
            if (after[who] == 0) g = g / 2;
            int drive = pull(kind, g, seat) * gears[seat] / 4;
            after[who] = Math.min(9999, Math.max(0, after[who] - cost(kind, g)) + r.fills);
            drives += drive;
            weights += r.weight;
            turn += drive * (seat + 1) * (sides[seat] == 0 ? 1 : -1);
        }
        int ahead = speed;
        speed += drives * 100 / weights;
        int less = Math.min(speed, water);
        speed -= less;
        lost += less;
        less = Math.min(speed, ahead * slipsOf(kind) / 100);
        speed -= less;
        slipped += less;
        speed = Math.min(99999, speed);
        way += speed;
    }

    private boolean isPlan(int plan) {
        return plan >= 0 && plan < plans.size();
    }

    long row(int plan, int what) {
        if (!isPlan(plan) || what < 0 || what > 4) return NO;
        rowIt(plans.get(plan), seats);
        return new long[] {way, speed, turn, lost, slipped}[what];
    }

    int left(int plan, int rower) {
        if (!isPlan(plan) || !isRower(rower)) return -5;
        rowIt(plans.get(plan), seats);
        return after[rower];
    }

    long rown(int plan) {
        if (!isPlan(plan)) return NO;
        rowIt(plans.get(plan), seats);
        for (int i = 0; i < after.length; i++) rowers.get(i).store = after[i];
        return way;
    }

    long more(int plan, int told) {
        if (!isPlan(plan) || told < 0 || told > 77 || told % 10 > 7 || told / 10 == told % 10) return NO;
        rowIt(plans.get(plan), seats);
        long was = way;
        Integer[] changed = seats.clone();
        changed[told / 10] = seats[told % 10];
        changed[told % 10] = seats[told / 10];
        rowIt(plans.get(plan), changed);
        return way - was;
    }

    long change(int plan, int what) {
        if (!isPlan(plan) || what < 0 || what > 1) return NO;
        int best = 1;
        long most = more(plan, 1);
        for (int told = 2; told < 68; told++) {
            if (told / 10 >= told % 10 || told % 10 > 7) continue;
            long m = more(plan, told);
            if (m > most) {
                most = m;
                best = told;
            }
        }
        return what == 0 ? best : most;
    }

    long order(int what) {
        if (what < 0 || what > 2) return NO;
        int[] were = sides.clone();
        rowIt("0", seats);
        long now = Math.abs(turn);
        long least = Long.MAX_VALUE;
        int best = 0;
        for (int bits = 255; bits >= 0; bits--) {
            if (Integer.bitCount(bits) != 4) continue;
            for (int s = 0; s < 8; s++) sides[s] = bits >> s & 1;
            rowIt("0", seats);
            if (Math.abs(turn) <= least) {
                least = Math.abs(turn);
                best = bits;
            }
        }
        sides = were;
        return what == 0 ? best : what == 1 ? least : now;
    }

    long spurts(int n, int k, int what) {
        if (n < 1 || n > 60 || k < 0 || k > n || what < 0 || what > 1) return NO;
        int best = 0;
        long most = -1;
        for (int j = n - k; j >= 0; j--) {
            rowIt("1".repeat(k) + "0".repeat(n - k - j) + "2".repeat(j), seats);
            if (way >= most) {
                most = way;
                best = j;
            }
        }
        return what == 0 ? best : most;
    }

    // ---- pieces, races

    int piece(int a, int b, int farther, int slip) {
        if (!isRower(a) || !isRower(b) || a == b) return -2;
        if (Math.abs((long) farther) > 9999 || slip < 0 || slip > 999) return -2;
        if (pieces.size() == 30) return -4;
        Piece p = new Piece();
        p.a = a;
        p.b = b;
        p.farther = farther;
        p.slip = slip;
        pieces.add(p);
        return pieces.size() - 1;
    }

    /** The most by which i can be more than j; null by a quarrel. */
    private long[][] mosts(int bits) {
        long far = 1L << 40;
        long[][] d = new long[16][16];
        for (int i = 0; i < 16; i++) {
            Arrays.fill(d[i], far);
            d[i][i] = 0;
        }
        for (int i = 0; i < pieces.size(); i++) {
            if ((bits >> i & 1) == 0) continue;
            Piece p = pieces.get(i);
            d[p.a][p.b] = Math.min(d[p.a][p.b], p.farther + p.slip);
            d[p.b][p.a] = Math.min(d[p.b][p.a], p.slip - p.farther);
        }
        for (int k = 0; k < 16; k++) {
            for (int i = 0; i < 16; i++) {
                for (int j = 0; j < 16; j++) d[i][j] = Math.min(d[i][j], d[i][k] + d[k][j]);
            }
        }
        for (int i = 0; i < 16; i++) {
            if (d[i][i] < 0) return null;
        }
        return d;
    }

    private boolean arePieces(int bits) {
        return bits >= 0 && bits >> pieces.size() == 0;
    }

    long worth(int a, int b, int bits, int what) {
        if (!isRower(a) || !isRower(b) || a == b || !arePieces(bits) || what < 0 || what > 1) return NO;
        long[][] d = mosts(bits);
        if (d == null) return -3;
        long most = what == 0 ? d[b][a] : d[a][b];
        if (most > 999999) most = 999999;
        return what == 0 ? -most : most;
    }

    int go(int bits) {
        if (!arePieces(bits) || bits > 4095) return -2;
        for (int n = 0; n <= 12; n++) {
            for (int without = 0; without < 4096; without++) {
                if (Integer.bitCount(without) == n && (without & ~bits) == 0
                        && mosts(bits & ~without) != null) {
                    return without;
                }
            }
        }
        return -2;
    }

    private int[] numbers(int sheet) {
        Object s = sheets[sheet];
        int[] all = new int[java.lang.reflect.Array.getLength(s)];
        for (int i = 0; i < all.length; i++) all[i] = java.lang.reflect.Array.getInt(s, i);
        return all;
    }

    int race(int sheet) {
        if (sheet < 0 || sheet > 3) return -2;
        if (sheets[sheet] == null) return -11;
        int[] times = numbers(sheet);
        if (times.length != 6) return -2;
        for (int t : times) {
            if (t < 0 || t > 9999) return -2;
        }
        if (races.size() == 20) return -4;
        races.add(times);
        return races.size() - 1;
    }

    long lanes(int a, int b, int part) {
        if (a < 0 || a > 5 || b < 0 || b > 5 || a == b || part < 0 || part > 1) return NO;
        int above = 0;
        int below = 0;
        for (int[] r : races) {
            if (r[a] * r[b] == 0) continue;
            above += r[a] - r[b];
            below++;
        }
        for (int d = below; d > 1; d--) {
            if (above % d == 0 && below % d == 0) return part == 0 ? above / d : below / d;
        }
        return part == 0 ? above : Math.max(1, below);
    }

    int fair() {
        int bits = 0;
        for (int lane = 0; lane < 6; lane++) {
            int rowed = 0;
            int first = 0;
            for (int[] r : races) {
                if (r[lane] == 0) continue;
                rowed++;
                int least = Arrays.stream(r).filter(t -> t > 0).min().getAsInt();
                if (r[lane] == least) first++;
            }
            if (rowed > 0 && first >= (rowed + 1) / 2) bits += 1 << lane;
        }
        return bits;
    }

    int image() {
        int[] stores = rowers.stream().mapToInt(r -> r.store).toArray();
        kept = new Object[] {seats.clone(), sides.clone(), gears.clone(), stores, drag, wind, rule};
        return count(1);
    }

    int back() {
        if (kept == null) return -3;
        seats = ((Integer[]) kept[0]).clone();
        sides = ((int[]) kept[1]).clone();
        gears = ((int[]) kept[2]).clone();
        int[] stores = (int[]) kept[3];
        for (int i = 0; i < stores.length; i++) rowers.get(i).store = stores[i];
        drag = (Integer) kept[4];
        wind = (Integer) kept[5];
        rule = (Integer) kept[6];
        return count(1);
    }

    int count(int what) {
        int sitting = 0;
        int weights = 0;
        for (Integer s : seats) {
            if (s == null) continue;
            sitting++;
            weights += rowers.get(s).weight;
        }
        int[] counts = {rowers.size(), sitting, plans.size(), texts.size(), tape.length(), rule,
            pieces.size(), races.size(), weights};
        return what < 0 || what > 8 ? -2 : counts[what];
    }

    // ---- the host: as the machine itself would answer

    int sheet(int sheet, int sort, int n) {
        if (sheet < 0 || sheet > 3 || sort < -1 || sort > 2) return -2;
        if (sort >= 0 && n > 40) return -2;
        try {
            sheets[sheet] = sort == -1 ? null : sort == 0 ? new byte[n] : sort == 1 ? new short[n] : new int[n];
        } catch (NegativeArraySizeException e) {
            return -14;
        }
        return 1;
    }

    int cell(int sheet, int i, int v) {
        if (sheet < 0 || sheet > 3) return -2;
        if (sheets[sheet] == null) return -11;
        try {
            if (sheets[sheet] instanceof byte[]) ((byte[]) sheets[sheet])[i] = (byte) v;
            else if (sheets[sheet] instanceof short[]) ((short[]) sheets[sheet])[i] = (short) v;
            else ((int[]) sheets[sheet])[i] = v;
        } catch (ArrayIndexOutOfBoundsException e) {
            return -12;
        }
        return 1;
    }

    int copy(int sheet, int i, int other, int j, int n) {
        if (sheet < 0 || sheet > 3 || other < 0 || other > 3) return -2;
        try {
            System.arraycopy(sheets[sheet], i, sheets[other], j, n);
        } catch (NullPointerException e) {
            return -11;
        } catch (ArrayStoreException e) {
            return -13;
        } catch (IndexOutOfBoundsException e) {
            return -12;
        }
        return n;
    }

    int pieces(int sheet, int sort, int from, int n) {
        if (sheet < 0 || sheet > 3 || sort < 0 || sort > 2 || n < 0 || n > 10) return -2;
        if (sheets[sheet] == null) return -11;
        if (!sheets[sheet].getClass().equals(new Class<?>[] {byte[].class, short[].class, int[].class}[sort])) {
            return -13;
        }
        int[] s = numbers(sheet);
        int came = 0;
        try {
            for (int k = 0; k < n; k++) {
                int at = from + 4 * k;
                if (piece(s[at], s[at + 1], s[at + 2], s[at + 3]) >= 0) came++;
            }
        } catch (ArrayIndexOutOfBoundsException e) {
            return -12;
        }
        return came;
    }

    int taken(int plan, int i, int k) {
        if (k < 0 || k > 5) return -2;
        if (i < 0 || planned(plan, i) == -1) return -11;
        int[] over = {-1, 0, 0, 0, 3, 1};
        for (int kind = planned(plan, i); kind >= 0; kind = over[kind]) {
            if (kind == k) return i;
        }
        return -13;
    }
}
