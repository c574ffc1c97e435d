import java.util.ArrayList;
import java.util.List;

/** The document again, as plainly as the machine's own doubles allow it: what BoxIntegrals is compared with. */
final class Reference {
    private static final double INF = Double.POSITIVE_INFINITY;
    private final List<double[]> spans = new ArrayList<>();
    private final List<Node> nodes = new ArrayList<>();
    private final List<Box> boxes = new ArrayList<>();
    private final Integer[] roles = new Integer[5];
    private int steps = 0;

    private record Node(int kind, int a, int b, double number) { }

    private static final class Box {
        double[] lo = new double[3];
        double[] hi = new double[3];
        int kind;
        double low;
        double high;
    }

    static double made(int kind, double a, double b) {
        return switch (kind) {
            case 2 -> a + b;
            case 3 -> a - b;
            case 4 -> a * b;
            case 5 -> a / b;
            case 6 -> Math.min(a, b);
            case 7 -> Math.max(a, b);
            case 8 -> Math.abs(a);
            case 9 -> Math.sqrt(a);
            case 10 -> a * a;
            case 11 -> Math.floor(a);
            case 12 -> -a;
            case 13 -> (double) (float) a;
            case 14 -> Math.signum(a);
            case 15 -> (double) (int) a;
            default -> (double) (long) a;
        };
    }

    private static long bits(double a) {
        return Double.doubleToLongBits(a);
    }

    private static double number(long bits) {
        return Double.longBitsToDouble(bits);
    }

    private boolean isNode(int node) {
        return node >= 0 && node < nodes.size();
    }

    private boolean isDraw(int draw) {
        return draw >= 0 && draw < spans.size();
    }

    private boolean isBox(int box) {
        return box >= 0 && box < boxes.size();
    }

    private static boolean isEnd(int end) {
        return end == 0 || end == 1;
    }

    private void endRun() {
        boxes.clear();
        steps = 0;
    }

    int draw(long lo, long hi) {
        double l = number(lo);
        double h = number(hi);
        if (!Double.isFinite(l) || !Double.isFinite(h) || !(l < h)) {
            return -2;
        }
        if (spans.size() == 3) {
            return -4;
        }
        spans.add(new double[] {l, h});
        java.util.Arrays.fill(roles, null);
        endRun();
        return spans.size() - 1;
    }

    int node(int kind, int a, int b, long bits) {
        if (kind < 0 || kind > 16) {
            return -2;
        }
        if (kind == 0 && !isDraw(a) || kind > 1 && !isNode(a) || kind > 1 && kind < 8 && !isNode(b)) {
            return -1;
        }
        if (nodes.size() == 32) {
            return -4;
        }
        nodes.add(new Node(kind, a, b, number(bits)));
        return nodes.size() - 1;
    }

    int role(int role, int node) {
        if (role < 0 || role > 1 && !isDraw(role - 2)) {
            return -2;
        }
        if (node != -5 && !isNode(node)) {
            return -1;
        }
        int was = roles[role] == null ? -5 : roles[role];
        roles[role] = node == -5 ? null : node;
        endRun();
        return was;
    }

    int begin() {
        if (spans.isEmpty()) {
            return -3;
        }
        endRun();
        Box first = new Box();
        for (int d = 0; d < spans.size(); d++) {
            first.lo[d] = spans.get(d)[0];
            first.hi[d] = spans.get(d)[1];
        }
        boxes.add(first);
        settle(first);
        return spans.size();
    }

    int run(int n) {
        if (n < 0 || n > 99) {
            return -2;
        }
        if (boxes.isEmpty()) {
            return -3;
        }
        if (boxes.size() == 100) {
            return -4;
        }
        int done = 0;
        while (done < n && boxes.size() < 100) {
            Box best = null;
            for (Box box : boxes) {
                if (box.kind == 3 && !isTight(box) && (best == null || box.high > best.high)) {
                    best = box;
                }
            }
            if (best == null) {
                break;
            }
            int d = widest(best);
            double m = middle(best, d);
            Box other = new Box();
            other.lo = best.lo.clone();
            other.hi = best.hi.clone();
            best.hi[d] = m;
            other.lo[d] = m;
            boxes.add(other);
            settle(best);
            settle(other);
            done++;
        }
        steps += done;
        return done;
    }

    private int widest(Box box) {
        int best = 0;
        for (int d = 1; d < spans.size(); d++) {
            if (box.hi[d] - box.lo[d] > box.hi[best] - box.lo[best]) {
                best = d;
            }
        }
        return best;
    }

    private static double middle(Box box, int d) {
        return box.lo[d] + (box.hi[d] - box.lo[d]) / 2.0;
    }

    private boolean isTight(Box box) {
        int d = widest(box);
        double m = middle(box, d);
        return !(m > box.lo[d]) || !(m < box.hi[d]);
    }

    private void settle(Box box) {
        boolean conditionSure = roles[0] == null || enclosure(box, roles[0])[0] > 0.0;
        boolean conditionNot = roles[0] != null && !(enclosure(box, roles[0])[1] > 0.0);
        boolean questionSure = roles[1] == null || enclosure(box, roles[1])[0] > 0.0;
        boolean questionNot = roles[1] != null && !(enclosure(box, roles[1])[1] > 0.0);
        box.kind = conditionNot ? 0 : conditionSure && questionSure ? 1 : conditionSure && questionNot ? 2 : 3;
        box.low = 1.0;
        box.high = 1.0;
        for (int d = 0; d < spans.size(); d++) {
            double width = box.hi[d] - box.lo[d];
            weigh(box, Math.nextDown(width), Math.nextUp(width));
            if (roles[2 + d] != null) {
                double[] density = enclosure(box, roles[2 + d]);
                weigh(box, density[0], density[1]);
            }
        }
    }

    private static void weigh(Box box, double m, double n) {
        double low = Math.nextDown(box.low * (m < 0.0 ? 0.0 : m));
        double high = Math.nextUp(box.high * (n < 0.0 ? 0.0 : n));
        box.low = Double.isNaN(low) || low < 0.0 ? 0.0 : low;
        box.high = Double.isNaN(high) ? INF : high;
    }

    /** All NODES up to one, in order: asked one from another, shared parts would be worked over and over. */
    private double[] enclosure(Box box, int node) {
        double[][] known = new double[node + 1][];
        for (int i = 0; i <= node; i++) {
            double[] ends = roughly(box, nodes.get(i), known);
            boolean isNone = Double.isNaN(ends[0]) || Double.isNaN(ends[1]);
            known[i] = isNone ? new double[] {-INF, INF} : ends;
        }
        return known[node];
    }

    private double[] roughly(Box box, Node node, double[][] known) {
        if (node.kind == 0) {
            return new double[] {box.lo[node.a], box.hi[node.a]};
        }
        if (node.kind == 1) {
            return new double[] {node.number, node.number};
        }
        double[] a = known[node.a];
        double[] b = node.kind < 8 ? known[node.b] : a;
        switch (node.kind) {
            case 2:
                return new double[] {Math.nextDown(a[0] + b[0]), Math.nextUp(a[1] + b[1])};
            case 3:
                return new double[] {Math.nextDown(a[0] - b[1]), Math.nextUp(a[1] - b[0])};
            case 5:
                if (!(b[0] > 0) && !(b[1] < 0)) {
                    return new double[] {-INF, INF};
                }
                return ofFour(5, a, b);
            case 4:
                return ofFour(4, a, b);
            case 8:
                return sizes(a);
            case 9:
                return a[0] < 0.0 ? new double[] {-INF, INF}
                    : new double[] {notBelow(Math.nextDown(Math.sqrt(a[0]))), Math.nextUp(Math.sqrt(a[1]))};
            case 10:
                double[] s = sizes(a);
                return new double[] {notBelow(Math.nextDown(s[0] * s[0])), Math.nextUp(s[1] * s[1])};
            case 12:
                return new double[] {-a[1], -a[0]};
            default:
                return new double[] {made(node.kind, a[0], b[0]), made(node.kind, a[1], b[1])};
        }
    }

    private static double notBelow(double low) {
        return low < 0.0 ? 0.0 : low;
    }

    private static double[] sizes(double[] a) {
        if (!(a[0] < 0)) {
            return a;
        }
        return !(a[1] > 0) ? new double[] {-a[1], -a[0]} : new double[] {0.0, Math.max(-a[0], a[1])};
    }

    private static double[] ofFour(int kind, double[] a, double[] b) {
        double least = INF;
        double greatest = -INF;
        for (double x : a) {
            for (double y : b) {
                double one = made(kind, x, y);
                if (Double.isNaN(one)) {
                    return new double[] {-INF, INF};
                }
                least = Math.min(least, one);
                greatest = Math.max(greatest, one);
            }
        }
        return new double[] {Math.nextDown(least), Math.nextUp(greatest)};
    }

    int boxes() {
        return boxes.size();
    }

    int kind(int box) {
        return isBox(box) ? boxes.get(box).kind : -1;
    }

    long side(int box, int draw, int end) {
        if (!isBox(box) || !isDraw(draw) || !isEnd(end)) {
            throw new ArrayIndexOutOfBoundsException();
        }
        return bits(end == 0 ? boxes.get(box).lo[draw] : boxes.get(box).hi[draw]);
    }

    long weight(int box, int end) {
        if (!isBox(box) || !isEnd(end)) {
            return 0L;
        }
        return bits(end == 0 ? boxes.get(box).low : boxes.get(box).high);
    }

    long enclosed(int box, int node, int end) {
        return isBox(box) && isNode(node) && isEnd(end) ? bits(enclosure(boxes.get(box), node)[end]) : 0L;
    }

    private double valueAt(int node, double[] point) {
        double[] known = new double[node + 1];
        for (int i = 0; i <= node; i++) {
            Node it = nodes.get(i);
            known[i] = it.kind == 0 ? point[it.a] : it.kind == 1 ? it.number
                : made(it.kind, known[it.a], it.kind < 8 ? known[it.b] : 0.0);
        }
        return known[node];
    }

    private static double[] point(long x, long y, long z) {
        return new double[] {number(x), number(y), number(z)};
    }

    long value(int node, long x, long y, long z) {
        return isNode(node) ? bits(valueAt(node, point(x, y, z))) : 0L;
    }

    private boolean isIn(Box box, double[] point) {
        for (int d = 0; d < spans.size(); d++) {
            if (!(box.lo[d] <= point[d] && point[d] <= box.hi[d])) {
                return false;
            }
        }
        return true;
    }

    int within(int box, int node, long x, long y, long z) {
        if (!isBox(box) || !isNode(node)) {
            return -1;
        }
        if (!isIn(boxes.get(box), point(x, y, z))) {
            return 0;
        }
        double value = valueAt(node, point(x, y, z));
        double[] ends = enclosure(boxes.get(box), node);
        return Double.isNaN(value) || ends[0] <= value && value <= ends[1] ? 2 : 1;
    }

    int where(long x, long y, long z) {
        for (int i = 0; i < boxes.size(); i++) {
            if (isIn(boxes.get(i), point(x, y, z))) {
                return i;
            }
        }
        return -5;
    }

    private double[] massOf(int kind) {
        double[] sum = {0.0, 0.0};
        for (Box box : boxes) {
            if (box.kind == kind) {
                sum[0] = notBelow(Math.nextDown(sum[0] + box.low));
                sum[1] = Math.nextUp(sum[1] + box.high);
            }
        }
        return sum;
    }

    long mass(int kind, int end) {
        return kind < 0 || kind > 3 || !isEnd(end) || boxes.isEmpty() ? 0L : bits(massOf(kind)[end]);
    }

    long odds(int end) {
        if (!isEnd(end) || boxes.isEmpty()) {
            return 0L;
        }
        double[] y = massOf(1);
        double[] n = massOf(2);
        double[] o = massOf(3);
        if (end == 0) {
            double low = Math.nextDown(y[0] / Math.nextUp(Math.nextUp(y[0] + n[1]) + o[1]));
            return bits(Double.isNaN(low) || low < 0.0 ? 0.0 : low);
        }
        double top = Math.nextUp(y[1] + o[1]);
        double high = Math.nextUp(top / Math.nextDown(top + n[0]));
        return bits(Double.isNaN(high) || high > 1.0 ? 1.0 : high);
    }

    private int howMany(int kind) {
        return (int) boxes.stream().filter(box -> box.kind == kind).count();
    }

    int share(int kind) {
        if (kind < 0 || kind > 3) {
            return -2;
        }
        if (boxes.isEmpty()) {
            return -3;
        }
        if (howMany(3) == 0) {
            throw new ArithmeticException();
        }
        return howMany(kind) / howMany(3);
    }

    int count(int what) {
        return switch (what) {
            case 0 -> spans.size();
            case 1 -> nodes.size();
            case 2 -> boxes.size();
            case 3 -> steps;
            case 4 -> (int) boxes.stream().filter(box -> box.kind == 3 && isTight(box)).count();
            default -> -2;
        };
    }

    int clear() {
        int were = nodes.size();
        nodes.clear();
        spans.clear();
        java.util.Arrays.fill(roles, null);
        endRun();
        return were;
    }
}
