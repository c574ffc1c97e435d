import java.util.Random;

/** Drawn runs of calls (all promises), right and wrong ones mixed, answered by BoxIntegrals and by Reference. */
final class ReferenceTest {
    private static final int OBJECTS = 4000;
    private static final int MOST_CALLS = 512;
    private static final int THROWN_INDEX = 1;
    private static final int THROWN_ARITHMETIC = 2;
    private static final Checks CHECKS = new Checks();
    private static final double[] EDGES = {0.0, -0.0, Double.MIN_VALUE, -Double.MIN_VALUE, Double.MIN_NORMAL, 0.5, 1.0,
        -1.0, 2.0, 1e-300, 1e154, -1e155, 1e300, Double.MAX_VALUE, -Double.MAX_VALUE, Double.POSITIVE_INFINITY,
        Double.NEGATIVE_INFINITY, Double.NaN, 2147483647.5, -2147483648.5, 0x1p63, 3.4e38, 3.5e38, 0x1p-150, 0.1};

    private final Random random;
    private final BoxIntegrals real = new BoxIntegrals();
    private final Reference plain = new Reference();
    private final boolean wild;
    private final boolean staged;
    private int calls = 0;

    private ReferenceTest(long seed) {
        random = new Random(seed);
        wild = random.nextInt(4) == 0;
        staged = random.nextInt(3) == 0;
    }

    public static void main(String[] args) {
        for (int i = 0; i < OBJECTS; i++) {
            new ReferenceTest(i).play();
        }
        CHECKS.end("ReferenceTest");
    }

    private void play() {
        int most = random.nextInt(4) == 0 ? MOST_CALLS : 40 + random.nextInt(120);
        while (calls < most) {
            calls++;
            call(staged ? stagedChoice() : random.nextInt(100));
        }
    }

    /** DRAWS, NODES, roles, then a RUN that nothing ends: mixed at random, few RUNS grow long under many roles. */
    private int stagedChoice() {
        if (calls <= 4) {
            return 0;
        }
        if (calls <= 34) {
            return 6;
        }
        if (calls <= 40) {
            return 30;
        }
        return calls == 41 ? 38 : 46 + random.nextInt(53);
    }

    private void call(int choice) {
        if (choice < 6) {
            draw();
        } else if (choice < 30) {
            node();
        } else if (choice < 38) {
            role();
        } else if (choice < 46) {
            same("begin()", real.begin(), plain.begin());
        } else if (choice < 56) {
            int n = random.nextInt(8) == 0 ? 99 : random.nextInt(14) - 1 + random.nextInt(2) * 5;
            n = random.nextInt(60) == 0 ? 100 : n;
            same("run(" + n + ")", real.run(n), plain.run(n));
        } else if (choice < 99) {
            ask(choice - 56);
        } else if (random.nextInt(3) == 0) {
            same("clear()", real.clear(), plain.clear());
        }
    }

    private void same(String call, long got, long want) {
        CHECKS.due(calls + ". " + call, got, want);
    }

    private long number() {
        int which = random.nextInt(wild ? 4 : 12);
        if (which == 0) {
            return Double.doubleToLongBits(EDGES[random.nextInt(EDGES.length)]) + random.nextInt(3) - 1;
        }
        if (which == 1 && wild) {
            return random.nextLong();
        }
        if (which < 8) {
            return Double.doubleToLongBits((random.nextInt(65) - 32) / 8.0);
        }
        return Double.doubleToLongBits(random.nextGaussian() * 3.0);
    }

    private void draw() {
        long lo = number();
        long hi = random.nextInt(12) == 0 ? lo + random.nextInt(4) : number();
        if (random.nextInt(4) != 0 && Double.longBitsToDouble(lo) > Double.longBitsToDouble(hi)) {
            long was = lo;
            lo = hi;
            hi = was;
        }
        same("draw(" + lo + ", " + hi + ")", real.draw(lo, hi), plain.draw(lo, hi));
    }

    private int someNode() {
        int nodes = plain.count(1);
        return nodes == 0 || random.nextInt(25) == 0 ? random.nextInt(40) - 6 : random.nextInt(nodes);
    }

    private int someBox() {
        int boxes = plain.boxes();
        return boxes == 0 || random.nextInt(25) == 0 ? random.nextInt(104) - 2 : random.nextInt(boxes);
    }

    private int someEnd() {
        return random.nextInt(20) == 0 ? random.nextInt(6) - 2 : random.nextInt(2);
    }

    private void node() {
        int kind = plain.count(1) < 3 ? random.nextInt(2) : random.nextInt(19) - 1;
        int a = kind == 0 ? random.nextInt(4) - random.nextInt(2) : someNode();
        int b = someNode();
        long bits = number();
        same("node(" + kind + ", " + a + ", " + b + ", " + bits + ")", real.node(kind, a, b, bits),
            plain.node(kind, a, b, bits));
    }

    private void role() {
        int role = random.nextInt(7) - random.nextInt(2);
        int node = random.nextInt(5) == 0 ? -5 : someNode();
        same("role(" + role + ", " + node + ")", real.role(role, node), plain.role(role, node));
    }

    private long coordinate(int draw) {
        int box = someBox();
        if (random.nextInt(6) == 0 || box < 0 || box >= plain.boxes() || draw >= plain.count(0)) {
            return number();
        }
        double lo = Double.longBitsToDouble(plain.side(box, draw, 0));
        double hi = Double.longBitsToDouble(plain.side(box, draw, 1));
        int which = random.nextInt(4);
        return Double.doubleToLongBits(which == 0 ? lo : which == 1 ? hi : lo + (hi - lo) * random.nextDouble());
    }

    private void ask(int choice) {
        int box = someBox();
        int node = someNode();
        int end = someEnd();
        int kind = random.nextInt(15) == 0 ? random.nextInt(10) - 3 : random.nextInt(4);
        long x = coordinate(0);
        long y = coordinate(1);
        long z = coordinate(2);
        String point = x + ", " + y + ", " + z + ")";
        if (choice < 5) {
            same("enclosed(" + box + ", " + node + ", " + end + ")", real.enclosed(box, node, end),
                plain.enclosed(box, node, end));
        } else if (choice < 9) {
            same("value(" + node + ", " + point, real.value(node, x, y, z), plain.value(node, x, y, z));
        } else if (choice < 15) {
            same("within(" + box + ", " + node + ", " + point, real.within(box, node, x, y, z),
                plain.within(box, node, x, y, z));
        } else if (choice < 19) {
            same("where(" + point, real.where(x, y, z), plain.where(x, y, z));
        } else if (choice < 23) {
            same("mass(" + kind + ", " + end + ")", real.mass(kind, end), plain.mass(kind, end));
        } else if (choice < 27) {
            same("odds(" + end + ")", real.odds(end), plain.odds(end));
        } else if (choice < 30) {
            same("weight(" + box + ", " + end + ")", real.weight(box, end), plain.weight(box, end));
        } else if (choice < 33) {
            same("kind(" + box + ")", real.kind(box), plain.kind(box));
        } else if (choice < 36) {
            side(box, random.nextInt(5) - 1, end);
        } else if (choice < 39) {
            share(kind);
        } else if (choice < 41) {
            int what = random.nextInt(8) - 1;
            same("count(" + what + ")", real.count(what), plain.count(what));
        } else {
            same("boxes()", real.boxes(), plain.boxes());
        }
    }

    private void side(int box, int draw, int end) {
        long got;
        long want;
        try {
            got = real.side(box, draw, end);
        } catch (ArrayIndexOutOfBoundsException e) {
            got = THROWN_INDEX;
        }
        try {
            want = plain.side(box, draw, end);
        } catch (ArrayIndexOutOfBoundsException e) {
            want = THROWN_INDEX;
        }
        same("side(" + box + ", " + draw + ", " + end + ")", got, want);
    }

    private void share(int kind) {
        long got;
        long want;
        try {
            got = real.share(kind);
        } catch (ArithmeticException e) {
            got = -100 - THROWN_ARITHMETIC;
        }
        try {
            want = plain.share(kind);
        } catch (ArithmeticException e) {
            want = -100 - THROWN_ARITHMETIC;
        }
        same("share(" + kind + ")", got, want);
    }
}
