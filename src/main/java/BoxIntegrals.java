/**
 * Chances enclosed by boxes: the spans of drawn numbers are split where that helps most, and the
 * odds of a question under a condition lie between two ends.
 *
 * <p>Every number is held as the bits of a double and worked in whole numbers (see Reals): so no
 * operation can meet a NaN by surprise, and the ends can be put outward exactly.
 */
public final class BoxIntegrals {
    public static final int UNKNOWN = -1, OUTSIDE = -2, STATE = -3, FULL = -4, NONE = -5;

    private static final int MOST_DRAWS = 3;
    private static final int MOST_NODES = 32;
    private static final int MOST_BOXES = 100;
    private static final int MOST_STEPS = 99;

    private static final int CONDITION = 0;
    private static final int QUESTION = 1;
    private static final int DENSITY = 2;
    private static final int ROLES = 5;

    private static final int OUT = 0;
    private static final int YES = 1;
    private static final int NO = 2;
    private static final int OPEN = 3;

    private static final int LOW = 0;
    private static final int HIGH = 1;

    private final Formulas formulas;
    private final Tiling tiling;
    private final long[] spans;
    private final int[] roles;
    private int draws;
    private int needed;

    public BoxIntegrals() {
        formulas = new Formulas();
        tiling = new Tiling();
        spans = new long[2 * MOST_DRAWS];
        roles = new int[] {NONE, NONE, NONE, NONE, NONE};
        draws = 0;
        needed = 0;
    }

    public int draw(long lo, long hi) {
        if (!Reals.isFinite(lo) || !Reals.isFinite(hi) || !Reals.isBelow(lo, hi)) {
            return OUTSIDE;
        }
        if (draws >= MOST_DRAWS) {
            return FULL;
        }
        spans[2 * draws] = lo;
        spans[2 * draws + 1] = hi;
        draws++;
        forgetRoles();
        tiling.end();
        return draws - 1;
    }

    public int node(int kind, int a, int b, long bits) {
        if (!Formulas.isKind(kind)) {
            return OUTSIDE;
        }
        if (!formulas.areParts(kind, a, b, draws)) {
            return UNKNOWN;
        }
        if (formulas.size >= MOST_NODES) {
            return FULL;
        }
        return formulas.add(kind, a, b, bits);
    }

    public int role(int role, int node) {
        if (role < 0 || role >= DENSITY + draws || role >= ROLES) {
            return OUTSIDE;
        }
        if (node != NONE && !formulas.has(node)) {
            return UNKNOWN;
        }
        int before = roles[role];
        roles[role] = node;
        tiling.end();
        return before;
    }

    public int begin() {
        if (draws == 0) {
            return STATE;
        }
        int asked = 0;
        for (int i = 0; i < ROLES; i++) {
            if (roles[i] != NONE) {
                asked |= 1 << roles[i];
            }
        }
        needed = formulas.withParts(asked);
        tiling.start(spans, draws);
        settle(0);
        return draws;
    }

    public int run(int n) {
        if (n < 0 || n > MOST_STEPS) {
            return OUTSIDE;
        }
        if (tiling.size == 0) {
            return STATE;
        }
        if (tiling.size >= MOST_BOXES) {
            return FULL;
        }
        int before = tiling.size;
        for (int step = 0; step < n && tiling.size < MOST_BOXES; step++) {
            int box = tiling.heaviest();
            if (box == NONE) {
                break;
            }
            int other = tiling.split(box);
            settle(box);
            settle(other);
        }
        return tiling.size - before;
    }

    public int boxes() {
        return tiling.size;
    }

    public int kind(int box) {
        return tiling.has(box) ? tiling.kinds[box] : UNKNOWN;
    }

    public long side(int box, int draw, int end) throws ArrayIndexOutOfBoundsException {
        if (!tiling.has(box) || draw < 0 || draw >= draws || !isEnd(end)) {
            throw new ArrayIndexOutOfBoundsException();
        }
        return tiling.sides[Tiling.place(box, draw) + end];
    }

    public long weight(int box, int end) {
        if (!tiling.has(box) || !isEnd(end)) {
            return 0L;
        }
        return end == LOW ? tiling.lows[box] : tiling.highs[box];
    }

    public long enclosed(int box, int node, int end) {
        if (!tiling.has(box) || !formulas.has(node) || !isEnd(end)) {
            return 0L;
        }
        formulas.enclose(formulas.withParts(1 << node), tiling.sides, Tiling.place(box, 0));
        return end == LOW ? formulas.lows[node] : formulas.highs[node];
    }

    public long value(int node, long x, long y, long z) {
        return formulas.has(node) ? formulas.valueAt(node, x, y, z) : 0L;
    }

    public int within(int box, int node, long x, long y, long z) {
        if (!tiling.has(box) || !formulas.has(node)) {
            return UNKNOWN;
        }
        if (!tiling.holds(box, x, y, z)) {
            return 0;
        }
        long value = formulas.valueAt(node, x, y, z);
        if (Reals.isNone(value)) {
            return 2;
        }
        formulas.enclose(formulas.withParts(1 << node), tiling.sides, Tiling.place(box, 0));
        return Reals.isFromTo(value, formulas.lows[node], formulas.highs[node]) ? 2 : 1;
    }

    public int where(long x, long y, long z) {
        for (int box = 0; box < tiling.size; box++) {
            if (tiling.holds(box, x, y, z)) {
                return box;
            }
        }
        return NONE;
    }

    public long mass(int kind, int end) {
        if (!isBoxKind(kind) || !isEnd(end) || tiling.size == 0) {
            return 0L;
        }
        return end == LOW ? tiling.lowMass(kind) : tiling.highMass(kind);
    }

    public long odds(int end) {
        if (!isEnd(end) || tiling.size == 0) {
            return 0L;
        }
        return end == LOW ? lowOdds() : highOdds();
    }

    public int share(int kind) throws ArithmeticException {
        if (!isBoxKind(kind)) {
            return OUTSIDE;
        }
        if (tiling.size == 0) {
            return STATE;
        }
        int open = tiling.howMany(OPEN);
        if (open == 0) {
            throw new ArithmeticException();
        }
        return tiling.howMany(kind) / open;
    }

    public int count(int what) {
        switch (what) {
            case 0:
                return draws;
            case 1:
                return formulas.size;
            case 2:
                return tiling.size;
            case 3:
                // every STEP makes just one BOX more than the first
                return tiling.size == 0 ? 0 : tiling.size - 1;
            case 4:
                return tiling.howManyStuck();
            default:
                return OUTSIDE;
        }
    }

    public int clear() {
        int nodes = formulas.size;
        formulas.size = 0;
        draws = 0;
        forgetRoles();
        tiling.end();
        return nodes;
    }

    private static boolean isEnd(int end) {
        return end == LOW || end == HIGH;
    }

    private static boolean isBoxKind(int kind) {
        return kind >= OUT && kind <= OPEN;
    }

    private void forgetRoles() {
        for (int i = 0; i < ROLES; i++) {
            roles[i] = NONE;
        }
    }

    /** Gives a BOX, whose sides are new, its KIND and WEIGHT. */
    private void settle(int box) {
        formulas.enclose(needed, tiling.sides, Tiling.place(box, 0));
        tiling.kinds[box] = kindNow();
        tiling.measure(box);
        weigh(box);
    }

    private int kindNow() {
        if (surelyNot(roles[CONDITION])) {
            return OUT;
        }
        if (surely(roles[CONDITION])) {
            if (surely(roles[QUESTION])) {
                return YES;
            }
            if (surelyNot(roles[QUESTION])) {
                return NO;
            }
        }
        return OPEN;
    }

    private boolean surely(int node) {
        return node == NONE || Reals.isBelow(Reals.ZERO, formulas.lows[node]);
    }

    private boolean surelyNot(int node) {
        return node != NONE && !Reals.isBelow(Reals.ZERO, formulas.highs[node]);
    }

    /** The BOX has been measured, and its DENSITIES enclosed, just before. */
    private void weigh(int box) {
        long low = Reals.ONE;
        long high = Reals.ONE;
        for (int d = 0; d < draws; d++) {
            low = Reals.lowTimes(low, Reals.down(tiling.widths[d]));
            high = Reals.highTimes(high, Reals.up(tiling.widths[d]));
            int density = roles[DENSITY + d];
            if (density != NONE) {
                low = Reals.lowTimes(low, formulas.lows[density]);
                high = Reals.highTimes(high, formulas.highs[density]);
            }
        }
        tiling.lows[box] = low;
        tiling.highs[box] = high;
    }

    private long lowOdds() {
        long yes = tiling.lowMass(YES);
        long yesAndNo = Reals.up(Reals.plus(yes, tiling.highMass(NO)));
        long all = Reals.up(Reals.plus(yesAndNo, tiling.highMass(OPEN)));
        return Reals.zeroIfLess(Reals.down(Reals.over(yes, all)));
    }

    private long highOdds() {
        long hopeful = Reals.up(Reals.plus(tiling.highMass(YES), tiling.highMass(OPEN)));
        long all = Reals.down(Reals.plus(hopeful, tiling.lowMass(NO)));
        return Reals.oneIfMore(Reals.up(Reals.over(hopeful, all)));
    }

    /** The NODES, and what was last worked out for them over a BOX or at a POINT. */
    private static final class Formulas {
        private static final int DRAWN = 0;
        private static final int FIXED = 1;
        private static final int SUM = 2;
        private static final int DIFFERENCE = 3;
        private static final int PRODUCT = 4;
        private static final int QUOTIENT = 5;
        private static final int LESSER = 6;
        private static final int GREATER = 7;
        private static final int SIZE = 8;
        private static final int ROOT = 9;
        private static final int SQUARE = 10;
        private static final int FLOOR = 11;
        private static final int OPPOSITE = 12;
        private static final int FLOAT = 13;
        private static final int SIGNUM = 14;
        private static final int INT = 15;
        private static final int LONG = 16;

        final long[] lows;
        final long[] highs;
        int size;
        private final int[] kinds;
        private final int[] firsts;
        private final int[] seconds;
        private final long[] numbers;
        private final long[] values;

        Formulas() {
            lows = new long[MOST_NODES];
            highs = new long[MOST_NODES];
            kinds = new int[MOST_NODES];
            firsts = new int[MOST_NODES];
            seconds = new int[MOST_NODES];
            numbers = new long[MOST_NODES];
            values = new long[MOST_NODES];
            size = 0;
        }

        static boolean isKind(int kind) {
            return kind >= DRAWN && kind <= LONG;
        }

        private static boolean hasFirst(int kind) {
            return kind >= SUM;
        }

        private static boolean hasSecond(int kind) {
            return kind >= SUM && kind <= GREATER;
        }

        boolean has(int node) {
            return node >= 0 && node < size;
        }

        boolean areParts(int kind, int a, int b, int draws) {
            if (kind == DRAWN) {
                return a >= 0 && a < draws;
            }
            return (!hasFirst(kind) || has(a)) && (!hasSecond(kind) || has(b));
        }

        /** What a KIND does not name is kept as 0, so that every kept number is a safe index. */
        int add(int kind, int a, int b, long bits) {
            int node = size;
            kinds[node] = kind;
            firsts[node] = kind == DRAWN || hasFirst(kind) ? a : 0;
            seconds[node] = hasSecond(kind) ? b : 0;
            numbers[node] = Reals.told(bits);
            size++;
            return node;
        }

        /** The NODES of a set of bits with all that they are made of: the rest need not be worked. */
        int withParts(int asked) {
            int all = asked;
            for (int i = size - 1; i >= 0; i--) {
                if ((all >>> i & 1) != 0 && hasFirst(kinds[i])) {
                    all |= 1 << firsts[i];
                    if (hasSecond(kinds[i])) {
                        all |= 1 << seconds[i];
                    }
                }
            }
            return all;
        }

        long valueAt(int node, long x, long y, long z) {
            int asked = withParts(1 << node);
            for (int i = 0; i <= node; i++) {
                if ((asked >>> i & 1) == 0) {
                    continue;
                }
                if (kinds[i] == DRAWN) {
                    values[i] = Reals.told(Reals.ofThree(firsts[i], x, y, z));
                } else if (kinds[i] == FIXED) {
                    values[i] = numbers[i];
                } else {
                    values[i] = made(kinds[i], values[firsts[i]], values[seconds[i]]);
                }
            }
            return values[node];
        }

        /** What a NODE of a KIND makes of numbers; b is not looked at where the KIND has none. */
        private static long made(int kind, long a, long b) {
            switch (kind) {
                case SUM:
                    return Reals.plus(a, b);
                case DIFFERENCE:
                    return Reals.plus(a, Reals.opposite(b));
                case PRODUCT:
                    return Reals.times(a, b);
                case QUOTIENT:
                    return Reals.over(a, b);
                case LESSER:
                    return Reals.lesser(a, b);
                case GREATER:
                    return Reals.greater(a, b);
                case SIZE:
                    return Reals.size(a);
                case ROOT:
                    return Reals.root(a);
                case SQUARE:
                    return Reals.times(a, a);
                case FLOOR:
                    return Reals.floor(a);
                case OPPOSITE:
                    return Reals.opposite(a);
                case FLOAT:
                    return Reals.throughFloat(a);
                case SIGNUM:
                    return Reals.signum(a);
                case INT:
                    return Reals.cut(a, Reals.LEAST_INT, Reals.GREATEST_INT);
                default:
                    return Reals.cut(a, Reals.LEAST_LONG, Reals.GREATEST_LONG);
            }
        }

        /** Encloses the NODES of a set of bits over the BOX whose sides begin at a place. */
        void enclose(int asked, long[] sides, int place) {
            for (int i = 0; i < size; i++) {
                if ((asked >>> i & 1) == 0) {
                    continue;
                }
                if (kinds[i] == DRAWN) {
                    put(i, sides[place + 2 * firsts[i]], sides[place + 2 * firsts[i] + 1]);
                } else if (kinds[i] == FIXED) {
                    put(i, numbers[i], numbers[i]);
                } else {
                    encloseMade(i);
                }
            }
        }

        private void encloseMade(int i) {
            long al = lows[firsts[i]];
            long ah = highs[firsts[i]];
            long bl = lows[seconds[i]];
            long bh = highs[seconds[i]];
            switch (kinds[i]) {
                case SUM:
                    put(i, Reals.down(Reals.plus(al, bl)), Reals.up(Reals.plus(ah, bh)));
                    break;
                case DIFFERENCE:
                    put(i, Reals.down(Reals.plus(al, Reals.opposite(bh))),
                            Reals.up(Reals.plus(ah, Reals.opposite(bl))));
                    break;
                case PRODUCT:
                    putFour(i, Reals.times(al, bl), Reals.times(al, bh),
                            Reals.times(ah, bl), Reals.times(ah, bh));
                    break;
                case QUOTIENT:
                    if (!Reals.isBelow(Reals.ZERO, bl) && !Reals.isBelow(bh, Reals.ZERO)) {
                        putWholeLine(i);
                    } else {
                        putFour(i, Reals.over(al, bl), Reals.over(al, bh),
                                Reals.over(ah, bl), Reals.over(ah, bh));
                    }
                    break;
                case SIZE:
                    putSize(i, al, ah);
                    break;
                case ROOT:
                    putRoot(i, al, ah);
                    break;
                case SQUARE:
                    putSize(i, al, ah);
                    putSquare(i, lows[i], highs[i]);
                    break;
                case OPPOSITE:
                    put(i, Reals.opposite(ah), Reals.opposite(al));
                    break;
                default:
                    put(i, made(kinds[i], al, bl), made(kinds[i], ah, bh));
                    break;
            }
        }

        private void putWholeLine(int i) {
            lows[i] = Reals.MINUS_INFINITE;
            highs[i] = Reals.INFINITE;
        }

        private void put(int i, long low, long high) {
            if (Reals.isNone(low) || Reals.isNone(high)) {
                putWholeLine(i);
                return;
            }
            lows[i] = low;
            highs[i] = high;
        }

        /** One of four that is no number makes the least and the greatest none as well. */
        private void putFour(int i, long p, long q, long r, long s) {
            long least = Reals.lesser(Reals.lesser(p, q), Reals.lesser(r, s));
            long greatest = Reals.greater(Reals.greater(p, q), Reals.greater(r, s));
            put(i, Reals.down(least), Reals.up(greatest));
        }

        private void putSize(int i, long al, long ah) {
            if (!Reals.isBelow(al, Reals.ZERO)) {
                put(i, al, ah);
            } else if (!Reals.isBelow(Reals.ZERO, ah)) {
                put(i, Reals.opposite(ah), Reals.opposite(al));
            } else {
                put(i, Reals.ZERO, Reals.greater(Reals.opposite(al), ah));
            }
        }

        private void putRoot(int i, long al, long ah) {
            if (Reals.isBelow(al, Reals.ZERO)) {
                putWholeLine(i);
                return;
            }
            long low = Reals.zeroIfLess(Reals.down(Reals.root(al)));
            put(i, low, Reals.up(Reals.root(ah)));
        }

        private void putSquare(int i, long l, long h) {
            long low = Reals.zeroIfLess(Reals.down(Reals.times(l, l)));
            put(i, low, Reals.up(Reals.times(h, h)));
        }
    }

    /** The BOXES of a RUN; none: there is no RUN. */
    private static final class Tiling {
        private static final int SIDE_ENDS = 2 * MOST_DRAWS;

        final long[] sides;
        final long[] lows;
        final long[] highs;
        final int[] kinds;
        final long[] widths;
        int size;
        private final int[] cutDraws;
        private final long[] middles;
        private final boolean[] tight;
        private int draws;

        Tiling() {
            sides = new long[MOST_BOXES * SIDE_ENDS];
            lows = new long[MOST_BOXES];
            highs = new long[MOST_BOXES];
            kinds = new int[MOST_BOXES];
            widths = new long[MOST_DRAWS];
            cutDraws = new int[MOST_BOXES];
            middles = new long[MOST_BOXES];
            tight = new boolean[MOST_BOXES];
            size = 0;
            draws = 0;
        }

        static int place(int box, int draw) {
            return box * SIDE_ENDS + 2 * draw;
        }

        boolean has(int box) {
            return box >= 0 && box < size;
        }

        void start(long[] spans, int howManyDraws) {
            draws = howManyDraws;
            for (int i = 0; i < 2 * howManyDraws; i++) {
                sides[i] = spans[i];
            }
            size = 1;
        }

        void end() {
            size = 0;
        }

        /** Finds where a BOX would be cut, once for all the STEPS that ask for it. */
        void measure(int box) {
            int widest = 0;
            for (int d = 0; d < draws; d++) {
                int at = place(box, d);
                widths[d] = Reals.plus(sides[at + 1], Reals.opposite(sides[at]));
                if (Reals.isBelow(widths[widest], widths[d])) {
                    widest = d;
                }
            }
            long lo = sides[place(box, widest)];
            long hi = sides[place(box, widest) + 1];
            long m = Reals.plus(lo, Reals.over(widths[widest], Reals.TWO));
            cutDraws[box] = widest;
            middles[box] = m;
            tight[box] = !Reals.isBelow(lo, m) || !Reals.isBelow(m, hi);
        }

        /** Cuts a BOX, while there is room for one more; the new one's number. */
        int split(int box) {
            int other = size;
            for (int i = 0; i < SIDE_ENDS; i++) {
                sides[place(other, 0) + i] = sides[place(box, 0) + i];
            }
            sides[place(box, cutDraws[box]) + 1] = middles[box];
            sides[place(other, cutDraws[box])] = middles[box];
            size++;
            return other;
        }

        /** The BOX that a STEP splits, or NONE. */
        int heaviest() {
            int best = NONE;
            for (int box = 0; box < size; box++) {
                if (kinds[box] != OPEN || tight[box]) {
                    continue;
                }
                if (best == NONE || Reals.isBelow(highs[best], highs[box])) {
                    best = box;
                }
            }
            return best;
        }

        boolean holds(int box, long x, long y, long z) {
            for (int d = 0; d < draws; d++) {
                int at = place(box, d);
                if (!Reals.isFromTo(Reals.ofThree(d, x, y, z), sides[at], sides[at + 1])) {
                    return false;
                }
            }
            return true;
        }

        long lowMass(int kind) {
            long sum = Reals.ZERO;
            for (int box = 0; box < size; box++) {
                if (kinds[box] == kind) {
                    sum = Reals.zeroIfLess(Reals.down(Reals.plus(sum, lows[box])));
                }
            }
            return sum;
        }

        long highMass(int kind) {
            long sum = Reals.ZERO;
            for (int box = 0; box < size; box++) {
                if (kinds[box] == kind) {
                    sum = Reals.up(Reals.plus(sum, highs[box]));
                }
            }
            return sum;
        }

        int howMany(int kind) {
            int found = 0;
            for (int box = 0; box < size; box++) {
                if (kinds[box] == kind) {
                    found++;
                }
            }
            return found;
        }

        int howManyStuck() {
            int found = 0;
            for (int box = 0; box < size; box++) {
                if (kinds[box] == OPEN && tight[box]) {
                    found++;
                }
            }
            return found;
        }
    }

    /**
     * The machine's doubles, worked on their bits in whole numbers, rounded to the nearest and of
     * two as near to the even one. What is no number is always NO_NUMBER, but in what a caller gives:
     * that is told first.
     *
     * <p>A finite number is its fraction times two to the power of its scale - 1075.
     */
    private static final class Reals {
        static final long ZERO = 0L;
        static final long ONE = 0x3ff0000000000000L;
        static final long TWO = 0x4000000000000000L;
        static final long INFINITE = 0x7ff0000000000000L;
        static final long MINUS_INFINITE = 0xfff0000000000000L;
        static final long LEAST_INT = 0xc1e0000000000000L;
        static final long GREATEST_INT = 0x41dfffffffc00000L;
        static final long LEAST_LONG = 0xc3e0000000000000L;
        // the greatest long is no double: it becomes the power of two behind it
        static final long GREATEST_LONG = 0x43e0000000000000L;

        private static final long MINUS_ONE = 0xbff0000000000000L;
        private static final long NO_NUMBER = 0x7ff8000000000000L;
        private static final long SIGN = 0x8000000000000000L;
        private static final long ALL_BUT_SIGN = 0x7fffffffffffffffL;
        private static final long LEADING = 0x0010000000000000L;
        private static final long BELOW_LEADING = 0x000fffffffffffffL;
        private static final long TWO_TO_128 = 0x47f0000000000000L;

        private static final int LONG_BITS = 64;
        private static final int FRACTION_BITS = 53;
        private static final int TOP_SCALE = 2046;
        private static final int BIAS = 1023;
        // three bits more than a fraction has: a half, a quarter, and whether anything lay below
        private static final int SPARE_BITS = 3;
        private static final int HALF_OF_SPARE = 4;
        private static final int SPARE = 7;

        /** As Double.doubleToLongBits tells it. */
        static long told(long bits) {
            return isNone(bits) ? NO_NUMBER : bits;
        }

        static long ofThree(int which, long x, long y, long z) {
            return which == 0 ? x : which == 1 ? y : z;
        }

        static boolean isNone(long a) {
            return (a & ALL_BUT_SIGN) > INFINITE;
        }

        static boolean isFinite(long a) {
            return (a & ALL_BUT_SIGN) < INFINITE;
        }

        private static boolean isInfinite(long a) {
            return (a & ALL_BUT_SIGN) == INFINITE;
        }

        private static boolean isZero(long a) {
            return (a & ALL_BUT_SIGN) == 0L;
        }

        /** A long that lies among others as the number does; both zeros have the same one. */
        private static long rank(long a) {
            return a >= 0L ? a : SIGN - a;
        }

        static boolean isBelow(long a, long b) {
            return !isNone(a) && !isNone(b) && rank(a) < rank(b);
        }

        static boolean isFromTo(long a, long low, long high) {
            return !isNone(a) && rank(low) <= rank(a) && rank(a) <= rank(high);
        }

        /** The rank with -0.0 below 0.0. */
        private static long strictRank(long a) {
            return a >= 0L ? a : ~(a & ALL_BUT_SIGN);
        }

        static long lesser(long a, long b) {
            if (isNone(a) || isNone(b)) {
                return NO_NUMBER;
            }
            return strictRank(a) <= strictRank(b) ? a : b;
        }

        static long greater(long a, long b) {
            if (isNone(a) || isNone(b)) {
                return NO_NUMBER;
            }
            return strictRank(a) >= strictRank(b) ? a : b;
        }

        static long zeroIfLess(long a) {
            return isNone(a) || isBelow(a, ZERO) ? ZERO : a;
        }

        static long oneIfMore(long a) {
            return isNone(a) || isBelow(ONE, a) ? ONE : a;
        }

        static long opposite(long a) {
            return isNone(a) ? NO_NUMBER : a ^ SIGN;
        }

        static long size(long a) {
            return isNone(a) ? NO_NUMBER : a & ALL_BUT_SIGN;
        }

        static long signum(long a) {
            return isNone(a) || isZero(a) ? a : (a & SIGN) | ONE;
        }

        static long up(long a) {
            if (isNone(a) || a == INFINITE) {
                return a;
            }
            if (isZero(a)) {
                return 1L;
            }
            return a > 0L ? a + 1L : a - 1L;
        }

        static long down(long a) {
            return opposite(up(opposite(a)));
        }

        private static int scale(long a) {
            int told = (int) ((a & INFINITE) >>> (FRACTION_BITS - 1));
            return told == 0 ? 1 : told;
        }

        private static long fraction(long a) {
            long told = a & BELOW_LEADING;
            return (a & INFINITE) == 0L ? told : told | LEADING;
        }

        /** How far the fraction of a number that is not zero lies below a full one. */
        private static int lack(long fraction) {
            return Long.numberOfLeadingZeros(fraction) - (LONG_BITS - FRACTION_BITS);
        }

        /** Moved right; what falls off stays in the last bit. */
        private static long moved(long m, int by) {
            if (by >= LONG_BITS - 1) {
                return m == 0L ? 0L : 1L;
            }
            long kept = m >>> by;
            return kept << by == m ? kept : kept | 1L;
        }

        /** The double nearest to m times two to the power of scale - 1078; m is not below 0. */
        private static long packed(long sign, int scale, long m) {
            if (m == 0L) {
                return sign;
            }
            int full = FRACTION_BITS + SPARE_BITS;
            int by = LONG_BITS - Long.numberOfLeadingZeros(m) - full;
            // small numbers keep the least scale, and fewer bits
            by = Math.max(by, 1 - scale);
            int reached = scale + by;
            if (reached > TOP_SCALE) {
                return sign | INFINITE;
            }
            long wide = by >= 0 ? moved(m, by) : m << -by;
            long kept = wide >>> SPARE_BITS;
            long spare = wide & SPARE;
            if (spare > HALF_OF_SPARE || spare == HALF_OF_SPARE && (kept & 1L) != 0L) {
                kept++;
            }
            // the leading bit adds one to the scale, and so does a fraction rounded up to the next
            return sign | ((long) (reached - 1) << (FRACTION_BITS - 1)) + kept;
        }

        static long plus(long a, long b) {
            if (isNone(a) || isNone(b)) {
                return NO_NUMBER;
            }
            if (isInfinite(a)) {
                return b == (a ^ SIGN) ? NO_NUMBER : a;
            }
            if (isInfinite(b)) {
                return b;
            }
            boolean firstIsBig = (a & ALL_BUT_SIGN) >= (b & ALL_BUT_SIGN);
            long big = firstIsBig ? a : b;
            long small = firstIsBig ? b : a;
            int scale = scale(big);
            long m = fraction(big) << SPARE_BITS;
            long n = moved(fraction(small) << SPARE_BITS, scale - scale(small));
            if (((a ^ b) & SIGN) == 0L) {
                return packed(a & SIGN, scale, m + n);
            }
            return m == n ? ZERO : packed(big & SIGN, scale, m - n);
        }

        static long times(long a, long b) {
            if (isNone(a) || isNone(b)) {
                return NO_NUMBER;
            }
            long sign = (a ^ b) & SIGN;
            if (isInfinite(a) || isInfinite(b)) {
                return isZero(a) || isZero(b) ? NO_NUMBER : sign | INFINITE;
            }
            if (isZero(a) || isZero(b)) {
                return sign;
            }
            int aLack = lack(fraction(a));
            int bLack = lack(fraction(b));
            long m = topOfProduct(fraction(a) << aLack, fraction(b) << bLack);
            return packed(sign, scale(a) - aLack + scale(b) - bLack - BIAS, m);
        }

        /** The product of two full fractions without its last 49 bits, but for whether any was set. */
        private static long topOfProduct(long m, long n) {
            int halfBits = 27;
            long mask = (1L << halfBits) - 1L;
            long m1 = m >>> halfBits;
            long m0 = m & mask;
            long n1 = n >>> halfBits;
            long n0 = n & mask;
            long low = m0 * n0;
            long mid = m1 * n0 + m0 * n1 + (low >>> halfBits);
            long top = m1 * n1 + (mid >>> halfBits);
            long rest = (mid & mask) << halfBits | low & mask;
            return top << 5 | moved(rest, 49);
        }

        static long over(long a, long b) {
            if (isNone(a) || isNone(b)) {
                return NO_NUMBER;
            }
            long sign = (a ^ b) & SIGN;
            if (isInfinite(a)) {
                return isInfinite(b) ? NO_NUMBER : sign | INFINITE;
            }
            if (isZero(b)) {
                return isZero(a) ? NO_NUMBER : sign | INFINITE;
            }
            if (isZero(a) || isInfinite(b)) {
                return sign;
            }
            int aLack = lack(fraction(a));
            int bLack = lack(fraction(b));
            long m = quotient(fraction(a) << aLack, fraction(b) << bLack);
            return packed(sign, scale(a) - aLack - (scale(b) - bLack) + BIAS - 1, m);
        }

        /** The quotient of two full fractions, times two to the power of 56, cut, what is cut in the last bit. */
        private static long quotient(long m, long n) {
            if (n <= 0L) {
                return 0L;
            }
            int digitBits = 8;
            long found = m / n;
            long rest = m % n;
            for (int digit = 0; digit < 7; digit++) {
                rest <<= digitBits;
                found = found << digitBits | rest / n;
                rest %= n;
            }
            return rest == 0L ? found : found | 1L;
        }

        static long root(long a) {
            if (isNone(a) || isZero(a) || a == INFINITE) {
                return a;
            }
            if (a < 0L) {
                return NO_NUMBER;
            }
            int lack = lack(fraction(a));
            long m = fraction(a) << lack;
            int power = scale(a) - lack - 1075;
            // only an even power of two has a root that is one
            if ((power & 1) != 0) {
                m <<= 1;
                power--;
            }
            return packed(0L, (power >> 1) + 1049, wholeRoot(m));
        }

        /** The root of m (of 54 bits), times two to the power of 29, cut, what is cut in the last bit. */
        private static long wholeRoot(long m) {
            long found = 0L;
            long rest = 0L;
            for (int shift = 52; shift >= -58; shift -= 2) {
                long pair = shift >= 0 ? m >>> shift & 3L : 0L;
                rest = rest << 2 | pair;
                long trial = found << 2 | 1L;
                found <<= 1;
                if (rest >= trial) {
                    rest -= trial;
                    found |= 1L;
                }
            }
            return rest == 0L ? found : found | 1L;
        }

        /** The bits of a number behind its point; scale - 1023 is from 0 to 51. */
        private static long behindPoint(int scale) {
            return BELOW_LEADING >>> (scale - BIAS);
        }

        static long floor(long a) {
            int scale = scale(a);
            if (isZero(a) || scale >= BIAS + FRACTION_BITS - 1) {
                return a;
            }
            if (scale < BIAS) {
                return a < 0L ? MINUS_ONE : ZERO;
            }
            long behind = behindPoint(scale);
            long up = a < 0L ? a + behind : a;
            return up & ~behind;
        }

        static long throughFloat(long a) {
            if (!isFinite(a) || isZero(a)) {
                return a;
            }
            int scale = scale(a);
            // a float has 29 bits less, and its last bit never stands below two to the power of -149
            int drop = Math.max(29, 926 - scale);
            if (drop > FRACTION_BITS) {
                return a & SIGN;
            }
            long m = fraction(a);
            long half = 1L << (drop - 1);
            long lost = m & (half + half - 1L);
            long kept = m - lost;
            if (lost > half || lost == half && (m >>> drop & 1L) != 0L) {
                kept += half + half;
            }
            if (kept == 0L) {
                return a & SIGN;
            }
            long size = ((long) (scale - 1) << (FRACTION_BITS - 1)) + kept;
            return a & SIGN | (size >= TWO_TO_128 ? INFINITE : size);
        }

        /** To a whole number and back: what lies beyond the ends becomes the end, no number 0. */
        static long cut(long a, long least, long greatest) {
            if (isNone(a) || scale(a) < BIAS) {
                return ZERO;
            }
            if (!isBelow(a, greatest)) {
                return greatest;
            }
            if (!isBelow(least, a)) {
                return least;
            }
            if (scale(a) >= BIAS + FRACTION_BITS - 1) {
                return a;
            }
            return a & ~behindPoint(scale(a));
        }

        /** Low ends of WEIGHTS, times one that may lie below 0.0. */
        static long lowTimes(long l, long m) {
            return zeroIfLess(down(times(l, zeroIfLess(m))));
        }

        static long highTimes(long h, long n) {
            long product = up(times(h, zeroIfLess(n)));
            return isNone(product) ? INFINITE : product;
        }
    }
}
