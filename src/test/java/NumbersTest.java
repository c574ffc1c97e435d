import java.util.Random;

/** The VALUE of every KIND (promise 12) against the machine's own doubles: edges by edges, then drawn ones. */
final class NumbersTest {
    private static final int KINDS = 17;
    private static final int PAIRS_OF_AN_OBJECT = 30;
    private static final Checks CHECKS = new Checks();
    private static BoxIntegrals object = null;
    private static int pairs = 0;

    public static void main(String[] args) {
        long[] edges = edges();
        for (long a : edges) {
            for (long b : edges) {
                compare(a, b);
            }
        }
        Random random = new Random(20261118L);
        for (int i = 0; i < 400000; i++) {
            long a = anyBits(random, edges);
            compare(a, random.nextInt(3) == 0 ? near(random, a) : anyBits(random, edges));
        }
        CHECKS.end("NumbersTest");
    }

    private static void compare(long a, long b) {
        if (pairs % PAIRS_OF_AN_OBJECT == 0) {
            object = withAllKinds();
        }
        pairs++;
        for (int kind = 2; kind < KINDS; kind++) {
            long want = Double.doubleToLongBits(
                    Reference.made(kind, Double.longBitsToDouble(a), Double.longBitsToDouble(b)));
            CHECKS.due("kind " + kind + " of " + a + ", " + b, object.value(kind, a, b, 7L), want);
        }
    }

    private static BoxIntegrals withAllKinds() {
        BoxIntegrals made = new BoxIntegrals();
        long one = Double.doubleToLongBits(1.0);
        made.draw(0L, one);
        made.draw(0L, one);
        made.node(0, 0, 0, 0L);
        made.node(0, 1, 0, 0L);
        for (int kind = 2; kind < KINDS; kind++) {
            made.node(kind, 0, 1, 0L);
        }
        return made;
    }

    private static long[] edges() {
        double[] sizes = {0.0, Double.MIN_VALUE, 2 * Double.MIN_VALUE, 3 * Double.MIN_VALUE, 1e-310,
            Math.nextDown(Double.MIN_NORMAL), Double.MIN_NORMAL, Math.nextUp(Double.MIN_NORMAL), 1.5e-162, 1e-154,
            0x1p-151, 0x1p-150, Math.nextDown(0x1p-150), Math.nextUp(0x1p-150), 0x1p-149, 0x1.8p-149, 0x1.4p-148,
            0x1p-126, Math.nextDown(0x1p-126), 0x1.fffffep-127, 0x1.ffffffp-127, 0x1p-53, 0x1p-54, 0x1p-52, 0.1, 0.25, 1.0 / 3.0,
            Math.nextDown(0.5), 0.5, Math.nextUp(0.5), Math.nextDown(1.0), 1.0, Math.nextUp(1.0), 1.5, 2.0, 2.5, 3.0,
            Math.nextDown(4.0), 7.0, 10.0, 16777216.0, 16777217.0, 16777219.0, 1.0 + 0x1p-24, 1.0 + 0x3p-24,
            2147483646.5, 2147483647.0, 2147483647.5, 2147483648.0, 2147483648.5, 2147483649.0, 4294967296.5,
            0x1p51, 0x1p51 + 0.5, 0x1p52, 0x1p52 - 0.5, 0x1p52 + 1, 0x1p53, 0x1p53 - 1, 0x1p53 + 2, 0x1p62,
            Math.nextDown(0x1p63), 0x1p63, Math.nextUp(0x1p63), 0x1p64, 1e22, Float.MAX_VALUE,
            0x1.ffffffp127, Math.nextDown(0x1.ffffffp127), 0x1p128, 1e150, 1.3407807929942596e154,
            1.3407807929942597e154, 1e155, 0x1p1022, 0x1p1023, Math.nextDown(Double.MAX_VALUE), Double.MAX_VALUE,
            Double.POSITIVE_INFINITY, Double.NaN};
        long[] edges = new long[2 * sizes.length + 4];
        for (int i = 0; i < sizes.length; i++) {
            edges[2 * i] = Double.doubleToLongBits(sizes[i]);
            edges[2 * i + 1] = edges[2 * i] | Long.MIN_VALUE;
        }
        edges[edges.length - 4] = 0x7ff0000000000001L;
        edges[edges.length - 3] = 0xfff0000000000001L;
        edges[edges.length - 2] = -1L;
        edges[edges.length - 1] = Long.MAX_VALUE;
        return edges;
    }

    private static long anyBits(Random random, long[] edges) {
        switch (random.nextInt(6)) {
            case 0:
                return random.nextLong();
            case 1:
                return edges[random.nextInt(edges.length)] + random.nextInt(5) - 2;
            case 2:
                return Double.doubleToLongBits((random.nextInt(2001) - 1000) / 8.0);
            case 3:
                // few bits set: exact results and ties
                return (random.nextLong() & 0xfff0000000000000L) | (random.nextLong() & random.nextLong()
                        & random.nextLong() & random.nextLong() & 0x000fffffffffffffL);
            case 4:
                return withScale(random, 1023 + random.nextInt(140) - 70);
            default:
                return withScale(random, random.nextBoolean() ? random.nextInt(60) : 2046 - random.nextInt(60));
        }
    }

    private static long withScale(Random random, int scale) {
        return (random.nextLong() & 0x800fffffffffffffL) | ((long) scale << 52);
    }

    /** Close to another number, or to its opposite: where much is lost, or just half a last bit. */
    private static long near(Random random, long a) {
        long sign = random.nextBoolean() ? Long.MIN_VALUE : 0L;
        long moved = a + ((long) (random.nextInt(115) - 57) << 52) * random.nextInt(2);
        return (moved + random.nextInt(7) - 3) ^ sign;
    }
}
