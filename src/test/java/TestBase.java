import java.lang.reflect.InvocationTargetException;
import java.lang.reflect.Method;
import java.util.ArrayList;
import java.util.Comparator;
import java.util.List;

/**
 * What the tests by promise and by sentence share. Each method with a Sentence is one test of its own, run by
 * itself: what it prints names the heading and the sentence, and what it throws fails it alone.
 */
class TestBase {
    static final int UNKNOWN = -1;
    static final int OUTSIDE = -2;
    static final int STATE = -3;
    static final int FULL = -4;
    static final int NONE = -5;
    static final int OUT = 0;
    static final int YES = 1;
    static final int NO = 2;
    static final int OPEN = 3;
    static final double INF = Double.POSITIVE_INFINITY;
    static final double NAN = Double.NaN;
    static final double TINY = Double.MIN_VALUE;
    static final double MOST = Double.MAX_VALUE;
    static final double ULP = Math.ulp(1.0);
    static final int[] FAR_OFF = {-1, -5, 1000, Integer.MIN_VALUE, Integer.MAX_VALUE};
    static final long[] NO_NUMBERS = {0x7ff8000000000000L, 0x7ff0000000000001L, Long.MAX_VALUE,
        0xfff8000000000000L, 0xfff0000000000001L, -1L};

    private static Checks checks = new Checks();
    private static String current = "";

    static List<Method> testsOf(Class<?> tests) {
        List<Method> found = new ArrayList<>();
        for (Method method : tests.getDeclaredMethods()) {
            if (method.isAnnotationPresent(Sentence.class)) {
                method.setAccessible(true);
                found.add(method);
            }
        }
        found.sort(Comparator.comparing(Method::getName));
        return found;
    }

    static void holdAll(Class<?> tests) throws IllegalAccessException {
        Checks all = new Checks();
        for (Method test : testsOf(tests)) {
            all.due(test.getName() + ": wrong answers", wrongAnswersOf(test), 0);
        }
        all.end(tests.getName());
    }

    /** How many answers of one test are wrong; a test that asks for nothing is wrong itself. */
    static int wrongAnswersOf(Method test) throws IllegalAccessException {
        Sentence sentence = test.getAnnotation(Sentence.class);
        current = sentence.of() + ", \"" + sentence.says() + "\": ";
        checks = new Checks();
        try {
            test.invoke(null);
        } catch (InvocationTargetException e) {
            checks.holds(current + test.getName() + " ended by " + e.getCause(), false);
        }
        checks.holds(current + test.getName() + " asks for something", checks.made() > 0);
        return checks.wrong();
    }

    static void end(String name) {
        checks.end(name);
    }

    static void due(String what, long got, long want) {
        checks.due(current + what, got, want);
    }

    static void holds(String what, boolean so) {
        checks.holds(current + what, so);
    }

    static long b(double number) {
        return Double.doubleToLongBits(number);
    }

    static double d(long bits) {
        return Double.longBitsToDouble(bits);
    }

    static void dueNumber(String what, long got, double want) {
        due(what + " (" + d(got) + " for " + want + ")", got, b(want));
    }

    static double up(double number, int times) {
        double moved = number;
        for (int i = 0; i < times; i++) {
            moved = Math.nextUp(moved);
        }
        return moved;
    }

    static double down(double number, int times) {
        return -up(-number, times);
    }

    /** DRAWS by pairs of ends, and for each a NODE of the same number that is it. */
    static BoxIntegrals drawn(double... ends) {
        BoxIntegrals x = new BoxIntegrals();
        for (int i = 0; i + 1 < ends.length; i += 2) {
            due("draw", x.draw(b(ends[i]), b(ends[i + 1])), i / 2);
            due("its node", x.node(0, i / 2, 0, 0L), i / 2);
        }
        return x;
    }

    static int number(BoxIntegrals x, double number) {
        return x.node(1, 0, 0, b(number));
    }

    static int of(BoxIntegrals x, int kind, int a) {
        return x.node(kind, a, 0, 0L);
    }

    static int of(BoxIntegrals x, int kind, int a, int b) {
        return x.node(kind, a, b, 0L);
    }

    /** A NODE that may be 0 or less and more, as long as the DRAW is wider than nothing: BOXES stay OPEN. */
    static int alwaysOpen(BoxIntegrals x) {
        return of(x, 4, 0, number(x, 0.0));
    }

    /** A RUN over the DRAWS by pairs of ends, all of whose BOXES stay OPEN. */
    static BoxIntegrals open(double... ends) {
        BoxIntegrals x = drawn(ends);
        x.role(1, alwaysOpen(x));
        x.begin();
        return x;
    }

    /** A RUN of 100 BOXES over 0.0 to 1.0, all OPEN. */
    static BoxIntegrals full() {
        BoxIntegrals x = open(0.0, 1.0);
        due("up to 100 BOXES", x.run(99), 99);
        return x;
    }

    static void dueEnds(String what, BoxIntegrals x, int node, double low, double high) {
        dueNumber(what + ", low end", x.enclosed(0, node, 0), low);
        dueNumber(what + ", high end", x.enclosed(0, node, 1), high);
    }

    static void dueSide(String what, BoxIntegrals x, int box, int draw, double lo, double hi) {
        dueNumber(what + ", lo", x.side(box, draw, 0), lo);
        dueNumber(what + ", hi", x.side(box, draw, 1), hi);
    }

    static void dueWeight(String what, BoxIntegrals x, int box, double low, double high) {
        dueNumber(what + ", low end", x.weight(box, 0), low);
        dueNumber(what + ", high end", x.weight(box, 1), high);
    }

    static void dueThrownSide(BoxIntegrals x, int box, int draw, int end) {
        boolean thrown = false;
        try {
            x.side(box, draw, end);
        } catch (ArrayIndexOutOfBoundsException e) {
            // the machine's own has a text: this one must come from a throw statement
            thrown = e.getClass() == ArrayIndexOutOfBoundsException.class && e.getMessage() == null;
        }
        holds("side(" + box + ", " + draw + ", " + end + ") throws", thrown);
    }

    static void dueThrownShare(BoxIntegrals x, int kind) {
        boolean thrown = false;
        try {
            x.share(kind);
        } catch (ArithmeticException e) {
            thrown = e.getClass() == ArithmeticException.class && e.getMessage() == null;
        }
        holds("share(" + kind + ") throws", thrown);
    }
}
