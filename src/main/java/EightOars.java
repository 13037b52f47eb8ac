import java.util.Arrays;

/**
 * Eight and a cox: rowers, a boat, strokes, plans, rows, pieces, races and rules in texts.
 * Every call answers by a number; a call that is refused changes nothing.
 */
public final class EightOars {
    public static final int NONE = -1, BAD = -2, STATE = -3, FULL = -4;
    public static final long NO = -4611686018427387904L;

    private static final int NONE_SUCH = -5, NO_SUCH_WATER = -1000, FAULT = -100;
    private static final int NOTHING = -11, OUTSIDE = -12, UNLIKE = -13, BELOW_ZERO = -14;

    private static final int SEATS = 8, MOST_ROWERS = 16, MOST_STORE = 9999, MOST_GIVEN = 999;
    private static final int MOST_BYTES = 160, MOST_TEXTS = 6, MOST_SPURTED = 60;
    private static final int EVEN_SIDES = 4, PIECES_A_CALL = 10;

    private final Crew crew;
    private final Boat boat;
    private final Boat keptBoat;
    private final int[] keptStores;
    private int keptRowers;
    private int keptRule;
    private final Tape tape;
    private final TextReader textReader;
    private final Rule[] rules;
    private int textCount;
    private int ruleNow;
    private final Plans plans;
    private final Course course;
    private final Trials trials;
    private final Regatta regatta;
    private final Sheets sheets;

    public EightOars() {
        crew = new Crew();
        boat = new Boat();
        keptBoat = new Boat();
        keptStores = new int[MOST_ROWERS];
        keptRowers = NONE;
        tape = new Tape();
        textReader = new TextReader(tape);
        rules = new Rule[MOST_TEXTS];
        int[] first = {Rule.FORCE, Rule.GEAR, Rule.PLUS, Rule.SPEED, 2, Rule.TIMES};
        rules[0] = new Rule(first, 3);
        textCount = 1;
        plans = new Plans(tape);
        course = new Course(crew, boat);
        trials = new Trials();
        regatta = new Regatta();
        sheets = new Sheets();
    }

    // ---- rowers, seats

    public int rower(int weight, int force, int store, int fills) {
        boolean told = within(weight, 40, 120) && within(force, 1, 99)
                && within(store, 0, MOST_STORE) && within(fills, 0, 99);
        if (!told) {
            return BAD;
        }
        return crew.add(weight, force, store, fills);
    }

    public int rowerTold(int rower, int what) {
        if (!crew.has(rower)) {
            return NONE_SUCH;
        }
        switch (what) {
            case 0: return crew.weights[rower];
            case 1: return crew.forces[rower];
            case 2: return crew.stores[rower];
            case 3: return crew.fills[rower];
            case 4: return boat.seatOf(rower);
            default: return NONE_SUCH;
        }
    }

    public int sit(int seat, int rower) {
        if (!isSeat(seat) || rower != NONE && !crew.has(rower)) {
            return NONE_SUCH;
        }
        return boat.place(seat, rower);
    }

    public int rig(int seat, int what, int v) {
        if (!isSeat(seat)) {
            return BAD;
        }
        if (what == 0 && within(v, 0, 1)) {
            int was = boat.sides[seat];
            boat.sides[seat] = v;
            return was;
        }
        if (what == 1 && within(v, 1, 9)) {
            int was = boat.gears[seat];
            boat.gears[seat] = v;
            return was;
        }
        return BAD;
    }

    public int water(int what, int v) {
        if (what == 0 && within(v, 1, 999)) {
            int was = boat.drag;
            boat.drag = v;
            return was;
        }
        if (what == 1 && within(v, -99, 99)) {
            int was = boat.wind;
            boat.wind = v;
            return was;
        }
        return NO_SUCH_WATER;
    }

    public int stroke(int kind, int g, int seat, int what) {
        if (!Kinds.has(kind) || !within(g, 0, MOST_GIVEN) || !isSeat(seat)) {
            return BAD;
        }
        switch (what) {
            case 0: return Kinds.pull(kind, g, seat);
            case 1: return Kinds.cost(kind, g);
            case 2: return Kinds.slips(kind);
            default: return BAD;
        }
    }

    // ---- texts, plans

    public int feed(int n, long bytes) {
        if (!within(n, 1, 8)) {
            return BAD;
        }
        return tape.add(n, bytes);
    }

    public int text() {
        if (textCount >= MOST_TEXTS) {
            return FULL;
        }
        int fault = textReader.findFault();
        tape.size = 0;
        if (fault != NONE) {
            return FAULT - fault;
        }
        rules[textCount] = textReader.ruleRead();
        textCount++;
        return textCount - 1;
    }

    public int force(int text) {
        if (!within(text, 0, textCount - 1)) {
            return BAD;
        }
        int was = ruleNow;
        ruleNow = text;
        return was;
    }

    public int plan() {
        if (plans.isFull()) {
            return FULL;
        }
        int fault = plans.read();
        tape.size = 0;
        return fault == NONE ? plans.size - 1 : FAULT - fault;
    }

    public int planned(int plan, int i) {
        if (!plans.has(plan)) {
            return NONE;
        }
        return i == -1 ? plans.sizes[plan] : plans.kindOf(plan, i);
    }

    // ---- rows

    public long row(int plan, int what) {
        if (!plans.has(plan) || !within(what, 0, 4)) {
            return NO;
        }
        rowBy(plan);
        switch (what) {
            case 0: return course.way;
            case 1: return course.speed;
            case 2: return course.turn;
            case 3: return course.lost;
            default: return course.slipped;
        }
    }

    public int left(int plan, int rower) {
        if (!plans.has(plan) || !crew.has(rower)) {
            return NONE_SUCH;
        }
        rowBy(plan);
        return course.stores[rower];
    }

    public long rown(int plan) {
        if (!plans.has(plan)) {
            return NO;
        }
        rowBy(plan);
        System.arraycopy(course.stores, 0, crew.stores, 0, MOST_ROWERS);
        return course.way;
    }

    public long more(int plan, int seats) {
        if (!plans.has(plan) || seats < 0) {
            return NO;
        }
        int one = seats / 10;
        int other = seats % 10;
        if (!isSeat(one) || !isSeat(other) || one == other) {
            return NO;
        }
        rowBy(plan);
        long asItIs = course.way;
        return wayIfChanged(plan, one, other) - asItIs;
    }

    public long change(int plan, int what) {
        if (!plans.has(plan) || !within(what, 0, 1)) {
            return NO;
        }
        rowBy(plan);
        long asItIs = course.way;
        long farthest = NO;
        int best = NONE;
        for (int one = 0; one < SEATS; one++) {
            for (int other = one + 1; other < SEATS; other++) {
                // two empty seats need no row: nothing would be other
                boolean empty = boat.seats[one] == NONE && boat.seats[other] == NONE;
                long way = empty ? asItIs : wayIfChanged(plan, one, other);
                if (way > farthest) {
                    farthest = way;
                    best = 10 * one + other;
                }
            }
        }
        return what == 0 ? best : farthest - asItIs;
    }

    public long order(int what) {
        if (!within(what, 0, 2)) {
            return NO;
        }
        course.begin(rules[ruleNow]);
        course.pullOnce(Kinds.STROKE);
        if (what == 2) {
            return Math.abs(course.turn);
        }
        int best = NONE;
        long least = 0;
        for (int sides = 0; sides < 1 << SEATS; sides++) {
            if (Integer.bitCount(sides) != EVEN_SIDES) {
                continue;
            }
            long wags = course.wagsBy(sides);
            if (best == NONE || wags < least) {
                best = sides;
                least = wags;
            }
        }
        return what == 0 ? best : least;
    }

    public long spurts(int n, int k, int what) {
        if (!within(n, 1, MOST_SPURTED) || !within(k, 0, n) || !within(what, 0, 1)) {
            return NO;
        }
        int best = NONE;
        long farthest = NO;
        for (int j = 0; j <= n - k; j++) {
            course.begin(rules[ruleNow]);
            course.pullMany(Kinds.START, k);
            course.pullMany(Kinds.STROKE, n - k - j);
            course.pullMany(Kinds.SPURT, j);
            if (course.way > farthest) {
                farthest = course.way;
                best = j;
            }
        }
        return what == 0 ? best : farthest;
    }

    // ---- pieces, races

    public int piece(int a, int b, int farther, int slip) {
        boolean told = crew.has(a) && crew.has(b) && a != b
                && within(farther, -9999, 9999) && within(slip, 0, 999);
        if (!told) {
            return BAD;
        }
        return trials.add(a, b, farther, slip);
    }

    public long worth(int a, int b, int pieces, int what) {
        boolean told = crew.has(a) && crew.has(b) && a != b
                && trials.hasAll(pieces) && within(what, 0, 1);
        if (!told) {
            return NO;
        }
        if (!trials.keepAll(pieces)) {
            return STATE;
        }
        return what == 0 ? -trials.mostOf(b, a) : trials.mostOf(a, b);
    }

    public int go(int pieces) {
        if (!trials.hasAll(pieces) || pieces >= 1 << Trials.FIRST) {
            return BAD;
        }
        return trials.fewestGone(pieces);
    }

    public int race(int sheet) {
        if (!sheets.has(sheet)) {
            return BAD;
        }
        if (sheets.isMissing(sheet)) {
            return NOTHING;
        }
        if (sheets.sizes[sheet] != Regatta.LANES) {
            return BAD;
        }
        return regatta.add(sheets.items[sheet]);
    }

    public long lanes(int a, int b, int part) {
        if (!Regatta.isLane(a) || !Regatta.isLane(b) || a == b || !within(part, 0, 1)) {
            return NO;
        }
        int above = regatta.differences(a, b);
        int below = regatta.meetings(a, b);
        int common = commonDivisor(Math.abs(above), below);
        if (common == 0) {
            return part == 0 ? 0 : 1;
        }
        return part == 0 ? above / common : below / common;
    }

    public int fair() {
        int bits = 0;
        for (int lane = 0; lane < Regatta.LANES; lane++) {
            if (regatta.isFair(lane)) {
                bits |= 1 << lane;
            }
        }
        return bits;
    }

    public int image() {
        keptBoat.become(boat);
        System.arraycopy(crew.stores, 0, keptStores, 0, MOST_ROWERS);
        keptRowers = crew.size;
        keptRule = ruleNow;
        return boat.sitters();
    }

    public int back() {
        if (keptRowers == NONE) {
            return STATE;
        }
        boat.become(keptBoat);
        // rowers that came since keep their stores
        System.arraycopy(keptStores, 0, crew.stores, 0, keptRowers);
        ruleNow = keptRule;
        return boat.sitters();
    }

    public int count(int what) {
        switch (what) {
            case 0: return crew.size;
            case 1: return boat.sitters();
            case 2: return plans.size;
            case 3: return textCount;
            case 4: return tape.size;
            case 5: return ruleNow;
            case 6: return trials.size;
            case 7: return regatta.size;
            case 8: return boat.weightOf(crew);
            default: return BAD;
        }
    }

    // ---- the host

    public int sheet(int sheet, int sort, int n) {
        if (!sheets.has(sheet) || sort != Sheets.MISSING && !Sheets.isSort(sort)) {
            return BAD;
        }
        if (sort == Sheets.MISSING) {
            sheets.sorts[sheet] = Sheets.MISSING;
            return 1;
        }
        if (n > Sheets.MOST_ITEMS) {
            return BAD;
        }
        if (n < 0) {
            return BELOW_ZERO;
        }
        sheets.renew(sheet, sort, n);
        return 1;
    }

    public int cell(int sheet, int i, int v) {
        if (!sheets.has(sheet)) {
            return BAD;
        }
        if (sheets.isMissing(sheet)) {
            return NOTHING;
        }
        if (!sheets.holds(sheet, i, 1)) {
            return OUTSIDE;
        }
        sheets.put(sheet, i, v);
        return 1;
    }

    public int copy(int sheet, int i, int other, int j, int n) {
        if (!sheets.has(sheet) || !sheets.has(other)) {
            return BAD;
        }
        if (sheets.isMissing(sheet) || sheets.isMissing(other)) {
            return NOTHING;
        }
        if (sheets.sorts[sheet] != sheets.sorts[other]) {
            return UNLIKE;
        }
        if (!sheets.holds(sheet, i, n) || !sheets.holds(other, j, n)) {
            return OUTSIDE;
        }
        System.arraycopy(sheets.items[sheet], i, sheets.items[other], j, n);
        return n;
    }

    public int pieces(int sheet, int sort, int from, int n) {
        if (!sheets.has(sheet) || !Sheets.isSort(sort) || !within(n, 0, PIECES_A_CALL)) {
            return BAD;
        }
        if (sheets.isMissing(sheet)) {
            return NOTHING;
        }
        if (sheets.sorts[sheet] != sort) {
            return UNLIKE;
        }
        int[] told = sheets.items[sheet];
        int at = from;
        int came = 0;
        for (int k = 0; k < n; k++) {
            if (!sheets.holds(sheet, at, 4)) {
                return OUTSIDE;
            }
            if (piece(told[at], told[at + 1], told[at + 2], told[at + 3]) >= 0) {
                came++;
            }
            at += 4;
        }
        return came;
    }

    public int taken(int plan, int i, int k) {
        if (!Kinds.has(k)) {
            return BAD;
        }
        int kind = plans.kindOf(plan, i);
        if (kind == NONE) {
            return NOTHING;
        }
        return Kinds.isUnder(kind, k) ? i : UNLIKE;
    }

    // ---- what the calls share

    private static boolean within(int v, int least, int most) {
        return v >= least && v <= most;
    }

    private static boolean isSeat(int seat) {
        return within(seat, 0, SEATS - 1);
    }

    private void rowBy(int plan) {
        course.begin(rules[ruleNow]);
        course.pullAll(plans.kinds[plan], plans.sizes[plan]);
    }

    private long wayIfChanged(int plan, int one, int other) {
        course.begin(rules[ruleNow]);
        course.changeSeats(one, other);
        course.pullAll(plans.kinds[plan], plans.sizes[plan]);
        return course.way;
    }

    /** Of numbers that are 0 at least; 0 only of 0 and 0. */
    private static int commonDivisor(int one, int other) {
        int big = one;
        int small = other;
        // Euclid's steps on ints are fewer than fifty
        for (int step = 0; step < 64 && small != 0; step++) {
            int rest = big % small;
            big = small;
            small = rest;
        }
        return big;
    }

    /** The rowers, each told in four rows at its number. */
    private static final class Crew {
        final int[] weights = new int[MOST_ROWERS];
        final int[] forces = new int[MOST_ROWERS];
        final int[] stores = new int[MOST_ROWERS];
        final int[] fills = new int[MOST_ROWERS];
        int size;

        boolean has(int rower) {
            return rower >= 0 && rower < size;
        }

        int add(int weight, int strength, int store, int filled) {
            if (size >= MOST_ROWERS) {
                return FULL;
            }
            weights[size] = weight;
            forces[size] = strength;
            stores[size] = store;
            fills[size] = filled;
            size++;
            return size - 1;
        }
    }

    /** The seats with who sits there, how they are rigged, and the water around. */
    private static final class Boat {
        final int[] seats = new int[SEATS];
        final int[] sides = new int[SEATS];
        final int[] gears = new int[SEATS];
        int drag = 20;
        int wind;

        Boat() {
            for (int seat = 0; seat < SEATS; seat++) {
                seats[seat] = NONE;
                sides[seat] = seat % 2;
                gears[seat] = 4;
            }
        }

        void become(Boat other) {
            System.arraycopy(other.seats, 0, seats, 0, SEATS);
            System.arraycopy(other.sides, 0, sides, 0, SEATS);
            System.arraycopy(other.gears, 0, gears, 0, SEATS);
            drag = other.drag;
            wind = other.wind;
        }

        int seatOf(int rower) {
            for (int seat = 0; seat < SEATS; seat++) {
                if (seats[seat] == rower) {
                    return seat;
                }
            }
            return NONE;
        }

        /** Who sat there ahead. */
        int place(int seat, int rower) {
            int was = seats[seat];
            int old = rower == NONE ? NONE : seatOf(rower);
            if (old != NONE) {
                seats[old] = NONE;
            }
            seats[seat] = rower;
            return was;
        }

        int sitters() {
            int sitting = 0;
            for (int seat = 0; seat < SEATS; seat++) {
                if (seats[seat] != NONE) {
                    sitting++;
                }
            }
            return sitting;
        }

        int weightOf(Crew crew) {
            int all = 0;
            for (int seat = 0; seat < SEATS; seat++) {
                if (crew.has(seats[seat])) {
                    all += crew.weights[seats[seat]];
                }
            }
            return all;
        }
    }

    /** What strokes of a kind do; each kind but the first is told by the one it is under. */
    private static final class Kinds {
        static final int STROKE = 0, START = 1, SPURT = 2, LATE = 3, ROUGH = 4, EASY = 5;
        static final String LETTERS = "rsxlwe";

        static boolean has(int kind) {
            return kind >= STROKE && kind <= EASY;
        }

        static int pull(int kind, int g, int seat) {
            switch (kind) {
                case START: return 2 * g / 3;
                case SPURT: return g + g / 4;
                case LATE: return latePull(g, seat);
                case ROUGH: return Math.max(0, latePull(g, seat) - 3);
                case EASY: return 2 * g / 3 / 2;
                default: return g;
            }
        }

        static int latePull(int g, int seat) {
            return seat == 0 ? g / 2 : g;
        }

        static int cost(int kind, int g) {
            switch (kind) {
                case START: return g + 5;
                case SPURT: return 2 * g;
                case ROUGH: return g + 2;
                case EASY: return (g + 5) / 3;
                default: return g;
            }
        }

        static int slips(int kind) {
            switch (kind) {
                case SPURT: return 1;
                case LATE: return 3;
                case ROUGH: return 5;
                default: return 0;
            }
        }

        /** Also of the kind itself, and with others between. */
        static boolean isUnder(int kind, int upper) {
            return upper == STROKE || kind == upper
                    || kind == ROUGH && upper == LATE || kind == EASY && upper == START;
        }
    }

    /** The bytes that were fed and not read yet. */
    private static final class Tape {
        final byte[] bytes = new byte[MOST_BYTES];
        int size;

        int add(int n, long lowest) {
            if (n > MOST_BYTES - size) {
                return FULL;
            }
            for (int i = 0; i < n; i++) {
                bytes[size + i] = (byte) (lowest >> 8 * i);
            }
            size += n;
            return size;
        }

        /** The byte's number; NONE outside. */
        int at(int place) {
            return place >= 0 && place < size ? bytes[place] & 255 : NONE;
        }

        /** What a digit stands for; NONE of anything else. */
        static int digitOf(int sign) {
            return sign >= '0' && sign <= '9' ? sign - '0' : NONE;
        }

        static boolean isLetter(int sign) {
            return sign >= 'a' && sign <= 'z';
        }

        static boolean isBlank(int sign) {
            return sign == ' ' || sign == '\n';
        }
    }

    /**
     * A text that was read, as steps: a sign stands behind the values that it joins.
     * A step below WORD is a number, from WORD on a name or a key, from SIGN on a sign.
     */
    private static final class Rule {
        static final int WORD = 10000, SIGN = 20000;
        static final int FORCE = WORD, GEAR = WORD + 3, SPEED = WORD + 4;
        static final int GIVE = WORD + 6, DRAG = WORD + 7;
        static final int OR = WORD + 8, AND = WORD + 9, NOT = WORD + 10;
        static final int PLUS = SIGN + '+', MINUS = SIGN + '-', TIMES = SIGN + '*';
        static final int LESS = SIGN + '<', SAME = SIGN + '=';
        static final int OPENS = SIGN + '(', CLOSES = SIGN + ')', ENDS = SIGN + ';';
        static final int NEGATE = 30000;
        static final int NAMES = 6;

        private final int[] steps;
        private final int half;

        Rule(int[] steps, int half) {
            this.steps = steps;
            this.half = half;
        }

        /** What give (the part ahead of half) or drag (the other one) comes to by its names. */
        int valueOf(boolean give, int[] names, int[] stack) {
            int from = give ? 0 : half;
            int to = give ? half : steps.length;
            int last = 0;
            int height = 0;
            // the newest value is kept in last, the older ones lie on the stack
            for (int i = from; i < to; i++) {
                int step = steps[i];
                if (isOperand(step)) {
                    if (height < stack.length) {
                        stack[height] = last;
                        height++;
                    }
                    last = step < WORD ? step : names[step - WORD];
                } else if (step == NEGATE) {
                    last = -last;
                } else if (step == NOT) {
                    last = last == 0 ? 1 : 0;
                } else if (height > 0) {
                    height--;
                    last = joined(step, stack[height], last);
                }
            }
            return last;
        }

        static boolean isOperand(int step) {
            return step >= 0 && step < WORD + NAMES;
        }

        private static int joined(int step, int one, int other) {
            boolean holds;
            switch (step) {
                case PLUS: return one + other;
                case MINUS: return one - other;
                case TIMES: return one * other;
                case LESS: holds = one < other; break;
                case SAME: holds = one == other; break;
                case AND: holds = one != 0 && other != 0; break;
                default: holds = one != 0 || other != 0; break;
            }
            return holds ? 1 : 0;
        }
    }

    /** Reads a text from the tape, token by token; stands still at the first that can't be there. */
    private static final class TextReader {
        private static final int AT_END = -1, WRONG = -2;
        private static final int MOST_OPEN = 5, MOST_DIGITS = 4;
        private static final String WORDS =
                "force store seat gear speed stroke give drag or and not ";
        private static final String SIGNS = "();+-*<=";

        private final Tape tape;
        private final int[] steps = new int[MOST_BYTES];
        private int size;
        private int half;
        private int token;
        private int tokenFrom;
        private int tokenTo;

        TextReader(Tape tape) {
            this.tape = tape;
        }

        /** The place of the first fault; NONE if the tape is a text. */
        int findFault() {
            size = 0;
            half = 0;
            tokenTo = 0;
            next();
            boolean fits = take(Rule.GIVE) && readEither(0) && take(Rule.ENDS);
            half = size;
            fits = fits && take(Rule.DRAG) && readEither(0) && take(Rule.ENDS);
            return fits && token == AT_END ? NONE : tokenFrom;
        }

        Rule ruleRead() {
            return new Rule(Arrays.copyOf(steps, size), half);
        }

        private void next() {
            int at = tokenTo;
            while (at < tape.size && Tape.isBlank(tape.at(at))) {
                at++;
            }
            int sign = tape.at(at);
            tokenFrom = at;
            tokenTo = at + 1;
            if (at >= tape.size) {
                token = AT_END;
            } else if (Tape.isLetter(sign)) {
                token = wordToken();
            } else if (Tape.digitOf(sign) != NONE) {
                token = numberToken();
            } else {
                token = SIGNS.indexOf((char) sign) >= 0 ? Rule.SIGN + sign : WRONG;
            }
        }

        private int numberToken() {
            int to = tokenFrom;
            int value = 0;
            while (to < tape.size && Tape.digitOf(tape.at(to)) != NONE) {
                if (to - tokenFrom < MOST_DIGITS) {
                    value = 10 * value + Tape.digitOf(tape.at(to));
                }
                to++;
            }
            tokenTo = to;
            return to - tokenFrom > MOST_DIGITS ? WRONG : value;
        }

        private int wordToken() {
            int to = tokenFrom;
            while (to < tape.size && Tape.isLetter(tape.at(to))) {
                to++;
            }
            tokenTo = to;
            int word = 0;
            int at = tokenFrom;
            boolean alike = true;
            for (int i = 0; i < WORDS.length(); i++) {
                char sign = WORDS.charAt(i);
                if (sign != ' ') {
                    alike = alike && at < to && tape.at(at) == sign;
                    at++;
                } else if (alike && at == to) {
                    return Rule.WORD + word;
                } else {
                    word++;
                    at = tokenFrom;
                    alike = true;
                }
            }
            return WRONG;
        }

        private boolean take(int wanted) {
            if (token != wanted) {
                return false;
            }
            next();
            return true;
        }

        private void put(int step) {
            if (size < steps.length) {
                steps[size] = step;
                size++;
            }
        }

        private boolean readEither(int open) {
            boolean fits = readBoth(open);
            for (int i = 0; i < MOST_BYTES && fits && token == Rule.OR; i++) {
                next();
                fits = readBoth(open);
                put(Rule.OR);
            }
            return fits;
        }

        private boolean readBoth(int open) {
            boolean fits = readNot(open);
            for (int i = 0; i < MOST_BYTES && fits && token == Rule.AND; i++) {
                next();
                fits = readNot(open);
                put(Rule.AND);
            }
            return fits;
        }

        private boolean readNot(int open) {
            if (token == Rule.NOT) {
                if (open >= MOST_OPEN) {
                    return false;
                }
                next();
                boolean fits = readNot(open + 1);
                put(Rule.NOT);
                return fits;
            }
            boolean fits = readSum(open);
            int sign = token;
            if (fits && (sign == Rule.LESS || sign == Rule.SAME)) {
                next();
                fits = readSum(open);
                put(sign);
            }
            return fits;
        }

        private boolean readSum(int open) {
            boolean fits = readTerm(open);
            for (int i = 0; i < MOST_BYTES && fits
                    && (token == Rule.PLUS || token == Rule.MINUS); i++) {
                int sign = token;
                next();
                fits = readTerm(open);
                put(sign);
            }
            return fits;
        }

        private boolean readTerm(int open) {
            boolean fits = readOne(open);
            for (int i = 0; i < MOST_BYTES && fits && token == Rule.TIMES; i++) {
                next();
                fits = readOne(open);
                put(Rule.TIMES);
            }
            return fits;
        }

        private boolean readOne(int open) {
            if (Rule.isOperand(token)) {
                put(token);
                next();
                return true;
            }
            if (open >= MOST_OPEN) {
                return false;
            }
            if (token == Rule.MINUS) {
                next();
                boolean fits = readOne(open + 1);
                put(Rule.NEGATE);
                return fits;
            }
            return take(Rule.OPENS) && readEither(open + 1) && take(Rule.CLOSES);
        }
    }

    /** The plans, each the kinds of its strokes, and the reading of one more from the tape. */
    private static final class Plans {
        static final int MOST = 8;
        private static final int MOST_PARTS = 12, MOST_STROKES = 200;

        private final Tape tape;
        final int[][] kinds = new int[MOST][MOST_STROKES];
        final int[] sizes = new int[MOST];
        int size;

        Plans(Tape tape) {
            this.tape = tape;
        }

        boolean has(int number) {
            return number >= 0 && number < size;
        }

        boolean isFull() {
            return size >= MOST;
        }

        /** NONE if there is no such stroke, or no such plan. */
        int kindOf(int number, int i) {
            return has(number) && i >= 0 && i < sizes[number] ? kinds[number][i] : NONE;
        }

        /** The place of the first fault; NONE if the tape is a plan, which is kept then. */
        int read() {
            if (isFull()) {
                return 0;
            }
            sizes[size] = 0;
            int at = 0;
            for (int part = 0; part < MOST_PARTS && (part == 0 || at < tape.size); part++) {
                if (kindAt(at) == NONE) {
                    return at;
                }
                int digits = at + 1;
                int first = Tape.digitOf(tape.at(digits));
                int second = Tape.digitOf(tape.at(digits + 1));
                if (first == NONE) {
                    return digits;
                }
                int number = second == NONE ? first : 10 * first + second;
                if (number == 0) {
                    // behind the one 0, or the second 0 of two
                    return digits + 1;
                }
                if (number > MOST_STROKES - sizes[size]) {
                    return digits;
                }
                append(kindAt(at), number);
                at = second == NONE ? digits + 1 : digits + 2;
            }
            if (at < tape.size) {
                return at;
            }
            size++;
            return NONE;
        }

        private void append(int kind, int number) {
            int[] row = kinds[size];
            int from = sizes[size];
            for (int i = from; i < from + number && i < row.length; i++) {
                row[i] = kind;
            }
            sizes[size] = from + number;
        }

        private int kindAt(int place) {
            int sign = tape.at(place);
            return Tape.isLetter(sign) ? Kinds.LETTERS.indexOf((char) sign) : NONE;
        }
    }

    /** A row as it is gone through: it works on stores and seats of its own. */
    private static final class Course {
        private static final int MOST_SPEED = 99999, MOST_DRAG = 99999, BOAT_WEIGHT = 200;

        private final Crew crew;
        private final Boat boat;
        private Rule rule;
        private final int[] seats = new int[SEATS];
        private final int[] drives = new int[SEATS];
        private final int[] names = new int[Rule.NAMES];
        private final int[] stack = new int[MOST_BYTES];
        private int weight;
        private int done;
        final int[] stores = new int[MOST_ROWERS];
        int speed;
        long way;
        long turn;
        long lost;
        long slipped;

        Course(Crew crew, Boat boat) {
            this.crew = crew;
            this.boat = boat;
        }

        void begin(Rule ruleNow) {
            rule = ruleNow;
            System.arraycopy(boat.seats, 0, seats, 0, SEATS);
            System.arraycopy(crew.stores, 0, stores, 0, MOST_ROWERS);
            weight = boat.weightOf(crew) + BOAT_WEIGHT;
            done = 0;
            speed = 0;
            way = 0;
            turn = 0;
            lost = 0;
            slipped = 0;
        }

        void changeSeats(int one, int other) {
            int rower = seats[one];
            seats[one] = seats[other];
            seats[other] = rower;
        }

        void pullAll(int[] kinds, int size) {
            for (int i = 0; i < size && i < kinds.length; i++) {
                pullOnce(kinds[i]);
            }
        }

        void pullMany(int kind, int n) {
            for (int i = 0; i < n; i++) {
                pullOnce(kind);
            }
        }

        void pullOnce(int kind) {
            // water goes by stores as they were ahead of the stroke
            int water = waterNow();
            int all = 0;
            for (int seat = 0; seat < SEATS; seat++) {
                drives[seat] = crew.has(seats[seat]) ? driveOf(seat, seats[seat], kind) : 0;
                all += drives[seat];
                int moment = drives[seat] * (seat + 1);
                turn += boat.sides[seat] == 0 ? moment : -moment;
            }
            int ahead = speed;
            speed += weight > 0 ? all * 100 / weight : 0;
            int losing = Math.min(water, speed);
            speed -= losing;
            lost += losing;
            int slipping = Math.min(ahead * Kinds.slips(kind) / 100, speed);
            speed -= slipping;
            slipped += slipping;
            speed = Math.min(MOST_SPEED, speed);
            way += speed;
            done++;
        }

        /** How much the last stroke would have turned the boat with other sides (bits: side 1). */
        long wagsBy(int sides) {
            long turned = 0;
            for (int seat = 0; seat < SEATS; seat++) {
                int moment = drives[seat] * (seat + 1);
                turned += (sides >> seat & 1) == 0 ? moment : -moment;
            }
            return Math.abs(turned);
        }

        private int waterNow() {
            nameAll(0, seats[0]);
            int drag = rule == null ? 0 : rule.valueOf(false, names, stack);
            drag = Math.max(0, Math.min(MOST_DRAG, drag));
            return Math.max(0, drag * boat.drag / 100 + boat.wind);
        }

        private int driveOf(int seat, int rower, int kind) {
            nameAll(seat, rower);
            int g = rule == null ? 0 : rule.valueOf(true, names, stack);
            g = Math.max(0, Math.min(MOST_GIVEN, g));
            if (stores[rower] == 0) {
                g /= 2;
            }
            int emptied = Math.max(0, stores[rower] - Kinds.cost(kind, g));
            stores[rower] = Math.min(MOST_STORE, emptied + crew.fills[rower]);
            return Kinds.pull(kind, g, seat) * boat.gears[seat] / 4;
        }

        private void nameAll(int seat, int rower) {
            boolean sits = crew.has(rower);
            names[0] = sits ? crew.forces[rower] : 0;
            names[1] = sits ? stores[rower] : 0;
            names[2] = seat;
            names[3] = boat.gears[seat];
            names[4] = speed;
            names[5] = done;
        }
    }

    /**
     * The pieces, and what follows from those that are told. A row of bounds holds, for each two
     * rowers, the most by which the one can be more than the other; it is always drawn tight.
     */
    private static final class Trials {
        static final int FIRST = 12;
        private static final int MOST = 30, UNBOUND = 999999;

        private final int[] ones = new int[MOST];
        private final int[] others = new int[MOST];
        private final int[] farthers = new int[MOST];
        private final int[] slips = new int[MOST];
        int size;
        // row i: the bounds by the pieces from i on, while the fewest are looked for
        private final int[][] bounds = new int[FIRST + 1][MOST_ROWERS * MOST_ROWERS];
        private int fewest;
        private int gone;

        int add(int a, int b, int farther, int slip) {
            if (size >= MOST) {
                return FULL;
            }
            ones[size] = a;
            others[size] = b;
            farthers[size] = farther;
            slips[size] = slip;
            size++;
            return size - 1;
        }

        boolean hasAll(int bits) {
            return bits >= 0 && bits < 1 << size;
        }

        /** False by a quarrel. */
        boolean keepAll(int bits) {
            unbind(bounds[0]);
            for (int i = 0; i < size; i++) {
                if (isTold(bits, i) && !keepOne(bounds[0], i)) {
                    return false;
                }
            }
            return true;
        }

        /** By what keepAll kept last. */
        int mostOf(int a, int b) {
            return bounds[0][cellOf(a, b)];
        }

        int fewestGone(int bits) {
            fewest = FIRST + 1;
            gone = 0;
            unbind(bounds[FIRST]);
            seek(bits, FIRST - 1, 0);
            return gone;
        }

        /** Keeps a piece ahead of leaving it out, from the last down: so the least bits come first. */
        private void seek(int bits, int i, int without) {
            if (Integer.bitCount(without) >= fewest) {
                return;
            }
            if (i < 0 || i >= FIRST) {
                fewest = Integer.bitCount(without);
                gone = without;
                return;
            }
            takeOver(i);
            if (!isTold(bits, i)) {
                seek(bits, i - 1, without);
                return;
            }
            if (keepOne(bounds[i], i)) {
                seek(bits, i - 1, without);
            }
            takeOver(i);
            seek(bits, i - 1, without | 1 << i);
        }

        private void takeOver(int i) {
            System.arraycopy(bounds[i + 1], 0, bounds[i], 0, bounds[i].length);
        }

        private boolean keepOne(int[] most, int i) {
            return keep(most, ones[i], others[i], farthers[i] + slips[i])
                    && keep(most, others[i], ones[i], slips[i] - farthers[i]);
        }

        private static boolean isTold(int bits, int i) {
            return (bits >> i & 1) == 1;
        }

        private static int cellOf(int a, int b) {
            return a * MOST_ROWERS + b;
        }

        private static void unbind(int[] most) {
            Arrays.fill(most, UNBOUND);
            for (int a = 0; a < MOST_ROWERS; a++) {
                most[cellOf(a, a)] = 0;
            }
        }

        /** Rower a is at most so much more than b: false if that can't be with what is kept. */
        private static boolean keep(int[] most, int a, int b, int bound) {
            int otherWay = most[cellOf(b, a)];
            if (otherWay != UNBOUND && otherWay + bound < 0) {
                return false;
            }
            if (bound >= most[cellOf(a, b)]) {
                return true;
            }
            for (int i = 0; i < MOST_ROWERS; i++) {
                int ahead = most[cellOf(i, a)];
                if (ahead != UNBOUND) {
                    tighten(most, i, b, ahead + bound);
                }
            }
            return true;
        }

        private static void tighten(int[] most, int i, int b, int bound) {
            for (int j = 0; j < MOST_ROWERS; j++) {
                int behind = most[cellOf(b, j)];
                if (behind != UNBOUND && bound + behind < most[cellOf(i, j)]) {
                    most[cellOf(i, j)] = bound + behind;
                }
            }
        }
    }

    /** The races: six times each. */
    private static final class Regatta {
        static final int LANES = 6;
        private static final int MOST = 20, MOST_TIME = 9999;

        private final int[] times = new int[MOST * LANES];
        int size;

        static boolean isLane(int lane) {
            return lane >= 0 && lane < LANES;
        }

        int add(int[] told) {
            for (int lane = 0; lane < LANES; lane++) {
                if (told[lane] < 0 || told[lane] > MOST_TIME) {
                    return BAD;
                }
            }
            if (size >= MOST) {
                return FULL;
            }
            System.arraycopy(told, 0, times, size * LANES, LANES);
            size++;
            return size - 1;
        }

        int differences(int a, int b) {
            int all = 0;
            for (int i = 0; i < size; i++) {
                if (met(i, a, b)) {
                    all += timeOf(i, a) - timeOf(i, b);
                }
            }
            return all;
        }

        int meetings(int a, int b) {
            int all = 0;
            for (int i = 0; i < size; i++) {
                if (met(i, a, b)) {
                    all++;
                }
            }
            return all;
        }

        boolean isFair(int lane) {
            int rowed = 0;
            int won = 0;
            for (int i = 0; i < size; i++) {
                if (timeOf(i, lane) != 0) {
                    rowed++;
                    won += isFirst(i, lane) ? 1 : 0;
                }
            }
            return rowed > 0 && 2 * won >= rowed;
        }

        private boolean isFirst(int i, int lane) {
            for (int other = 0; other < LANES; other++) {
                if (timeOf(i, other) != 0 && timeOf(i, other) < timeOf(i, lane)) {
                    return false;
                }
            }
            return true;
        }

        private boolean met(int i, int a, int b) {
            return timeOf(i, a) != 0 && timeOf(i, b) != 0;
        }

        private int timeOf(int i, int lane) {
            return times[i * LANES + lane];
        }
    }

    /** The host's rows of numbers; each has room for the longest, so that none is made anew. */
    private static final class Sheets {
        static final int MISSING = -1, MOST_ITEMS = 40;
        private static final int SHEETS = 4, BYTES = 0, SHORTS = 1, INTS = 2;

        final int[] sorts = {MISSING, MISSING, MISSING, MISSING};
        final int[] sizes = new int[SHEETS];
        final int[][] items = new int[SHEETS][MOST_ITEMS];

        boolean has(int number) {
            return number >= 0 && number < SHEETS;
        }

        boolean isMissing(int number) {
            return sorts[number] == MISSING;
        }

        static boolean isSort(int sort) {
            return sort >= BYTES && sort <= INTS;
        }

        void renew(int number, int sort, int n) {
            sorts[number] = sort;
            sizes[number] = n;
            Arrays.fill(items[number], 0);
        }

        /** Whether n items from one on all stand in it. */
        boolean holds(int number, int from, int n) {
            return from >= 0 && n >= 0 && n <= sizes[number] && from <= sizes[number] - n;
        }

        void put(int number, int i, int v) {
            switch (sorts[number]) {
                case BYTES: items[number][i] = (byte) v; break;
                case SHORTS: items[number][i] = (short) v; break;
                default: items[number][i] = v; break;
            }
        }
    }
}
