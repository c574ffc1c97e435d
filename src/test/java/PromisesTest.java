/** Promise by promise, with answers worked out by hand from the document: ordinary, edges, wrong inputs, order of refusals. */
final class PromisesTest extends TestBase {
    private static final int[] WRONG_NUMBERS = {-1, -2, -5, 1000, Integer.MIN_VALUE, Integer.MAX_VALUE};

    public static void main(String[] args) {
        newObject();
        draw();
        node();
        role();
        begin();
        run();
        boxes();
        kind();
        side();
        weight();
        enclosed();
        enclosedEdges();
        value();
        within();
        where();
        mass();
        odds();
        share();
        count();
        clear();
        end("PromisesTest");
    }

    // promise 1
    private static void newObject() {
        BoxIntegrals x = new BoxIntegrals();
        for (int what = 0; what <= 4; what++) {
            due("new: count", x.count(what), 0);
        }
        due("new: boxes", x.boxes(), 0);
        due("new: begin", x.begin(), STATE);
        due("new: clear", x.clear(), 0);
        due("new: where", x.where(0L, 0L, 0L), NONE);
        due("new: role of none", x.role(0, NONE), NONE);
        due("new: role of an unknown node", x.role(1, 0), UNKNOWN);
        due("two objects have nothing in common", drawn(0.0, 1.0).count(0) + new BoxIntegrals().count(0), 1);
    }

    // promise 2
    private static void draw() {
        BoxIntegrals x = new BoxIntegrals();
        double[][] wrong = {{0.0, 0.0}, {1.0, 0.0}, {-0.0, 0.0}, {0.0, -0.0}, {NAN, 1.0}, {0.0, NAN}, {NAN, NAN},
            {-INF, 0.0}, {0.0, INF}, {-INF, INF}, {INF, -INF}, {TINY, -TINY}};
        for (double[] span : wrong) {
            due("draw of " + span[0] + ", " + span[1], x.draw(b(span[0]), b(span[1])), OUTSIDE);
        }
        due("draw of strange bits", x.draw(0L, 0x7ff0000000000001L), OUTSIDE);
        due("draw of strange bits", x.draw(-1L, 0L), OUTSIDE);
        due("nothing was drawn", x.count(0), 0);
        due("draw 0", x.draw(b(-0.0), b(TINY)), 0);
        due("begin", x.begin(), 1);
        due("refused: the RUN stays", x.draw(0L, 0L), OUTSIDE);
        due("refused: the RUN stays", x.boxes(), 1);
        dueNumber("the bits of a zero stay", x.side(0, 0, 0), -0.0);
        due("draw 1", x.draw(b(-MOST), b(MOST)), 1);
        due("a RUN ends", x.boxes(), 0);
        due("a constant", number(x, 1.0), 0);
        for (int role = 0; role < 4; role++) {
            due("roles", x.role(role, 0), NONE);
        }
        due("draw 2", x.draw(b(1.0), b(2.0)), 2);
        for (int role = 0; role < 5; role++) {
            due("all roles are gone", x.role(role, 0), NONE);
        }
        due("begin", x.begin(), 3);
        due("three are all", x.draw(b(1.0), b(2.0)), FULL);
        due("OUTSIDE before FULL", x.draw(b(2.0), b(1.0)), OUTSIDE);
        due("the RUN stays", x.boxes(), 1);
        due("roles stay", x.role(4, 0), 0);
    }

    // promise 3
    private static void node() {
        BoxIntegrals x = new BoxIntegrals();
        due("no draw yet", x.node(0, 0, 0, 0L), UNKNOWN);
        due("kind ahead", x.node(17, 5, 5, 0L), OUTSIDE);
        due("kind ahead", x.node(-1, 5, 5, 0L), OUTSIDE);
        due("kind ahead", x.node(Integer.MIN_VALUE, 5, 5, 0L), OUTSIDE);
        for (int kind = 2; kind <= 16; kind++) {
            due("no node yet, kind " + kind, x.node(kind, 0, 0, 0L), UNKNOWN);
        }
        due("a, b are not looked at", x.node(1, -7, 99, 5L), 0);
        due("draw", x.draw(0L, b(1.0)), 0);
        due("begin", x.begin(), 1);
        for (int wrong : WRONG_NUMBERS) {
            due("of no draw", x.node(0, wrong, 0, 0L), UNKNOWN);
            for (int kind = 2; kind <= 16; kind++) {
                due("of no a, kind " + kind, x.node(kind, wrong, 0, 0L), UNKNOWN);
            }
            for (int kind = 2; kind <= 7; kind++) {
                due("of no b, kind " + kind, x.node(kind, 0, wrong, 0L), UNKNOWN);
            }
        }
        due("of itself", x.node(2, 1, 0, 0L), UNKNOWN);
        due("b is not looked at", x.node(0, 0, -9, 0L), 1);
        for (int kind = 2; kind <= 7; kind++) {
            due("a, b", x.node(kind, 0, 1, 0L), kind);
        }
        for (int kind = 8; kind <= 16; kind++) {
            due("b is not looked at", x.node(kind, kind - 1, Integer.MIN_VALUE, -1L), kind);
        }
        due("a RUN goes on", x.boxes(), 1);
        for (int i = 17; i < 32; i++) {
            due("up to 32", x.node(1, 0, 0, 0L), i);
        }
        due("32 are all", x.node(1, 0, 0, 0L), FULL);
        due("UNKNOWN before FULL", x.node(2, 0, 32, 0L), UNKNOWN);
        due("OUTSIDE ahead", x.node(17, 0, 32, 0L), OUTSIDE);
        due("32", x.count(1), 32);
    }

    // promise 4
    private static void role() {
        BoxIntegrals x = new BoxIntegrals();
        due("no draw, no density", x.role(2, NONE), OUTSIDE);
        due("OUTSIDE ahead", x.role(5, 77), OUTSIDE);
        due("OUTSIDE ahead", x.role(-1, 77), OUTSIDE);
        due("OUTSIDE ahead", x.role(Integer.MAX_VALUE, 77), OUTSIDE);
        due("OUTSIDE ahead", x.role(Integer.MIN_VALUE, 77), OUTSIDE);
        due("no node", x.role(0, 0), UNKNOWN);
        due("a constant", number(x, 1.0), 0);
        due("a condition without draws", x.role(0, 0), NONE);
        due("what it was", x.role(0, NONE), 0);
        due("a draw", x.draw(0L, b(1.0)), 0);
        due("a node", number(x, 2.0), 1);
        due("density 0", x.role(2, 1), NONE);
        due("density 1 is outside", x.role(3, 1), OUTSIDE);
        due("what it was", x.role(2, 0), 1);
        due("what it was", x.role(2, 0), 0);
        due("question", x.role(1, 1), NONE);
        due("begin", x.begin(), 1);
        for (int wrong : new int[] {-1, -2, -3, -4, -6, 2, Integer.MIN_VALUE, Integer.MAX_VALUE}) {
            due("no such node", x.role(1, wrong), UNKNOWN);
        }
        due("no such role", x.role(3, 0), OUTSIDE);
        due("refused: the RUN stays", x.boxes(), 1);
        due("the same again", x.role(1, 1), 1);
        due("a RUN ends", x.boxes(), 0);
        due("draw 1", x.draw(0L, b(1.0)), 1);
        due("draw 2", x.draw(0L, b(1.0)), 2);
        due("density 2", x.role(4, 1), NONE);
        due("no density 3", x.role(5, 1), OUTSIDE);
    }

    // promise 5
    private static void begin() {
        BoxIntegrals x = new BoxIntegrals();
        due("no draw", x.begin(), STATE);
        x.draw(0L, b(1.0));
        due("one", x.begin(), 1);
        x.draw(0L, b(2.0));
        due("two", x.begin(), 2);
        x.draw(0L, b(4.0));
        due("three", x.begin(), 3);
        x.node(0, 2, 0, 0L);
        int half = number(x, 1.3);
        x.role(0, of(x, 3, 0, half));
        x.begin();
        due("steps", x.run(7), 7);
        due("anew", x.begin(), 3);
        due("one box", x.boxes(), 1);
        due("no step", x.count(3), 0);
        dueNumber("the spans", x.side(0, 2, 1), 4.0);
    }

    // promise 6
    private static void run() {
        BoxIntegrals x = drawn(0.0, 1.0);
        due("OUTSIDE before STATE", x.run(-1), OUTSIDE);
        due("OUTSIDE before STATE", x.run(100), OUTSIDE);
        due("no RUN", x.run(0), STATE);
        due("no RUN", x.run(99), STATE);
        x.begin();
        due("no OPEN box", x.run(99), 0);
        int third = number(x, 1.0 / 3.0);
        x.role(1, of(x, 3, 0, third));
        x.begin();
        due("none asked", x.run(0), 0);
        for (int wrong : WRONG_NUMBERS) {
            due("outside", x.run(wrong), OUTSIDE);
        }
        due("three", x.run(3), 3);
        dueNumber("box 0 holds the third, as its high end grew", x.side(0, 0, 1), 0.25);
        dueNumber("then the first", x.side(2, 0, 0), 0.25);
        dueNumber("then the first", x.side(2, 0, 1), 0.375);
        // from 0.25 to 0.5 in two, then 52 halves; the third is an end of two last ones
        due("then as long as it is OPEN", x.run(99), 2 + 52 - 3);
        due("TIGHT at last", x.count(4), 2);
        heaviestFirst();
        fullOfBoxes();
        widestSide();
    }

    private static void heaviestFirst() {
        BoxIntegrals x = drawn(0.0, 4.0);
        int zero = number(x, 0.0);
        x.role(1, of(x, 4, 0, zero));
        x.role(2, 0);
        x.begin();
        due("all are OPEN", x.run(1), 1);
        due("the heavier half", x.run(1), 1);
        dueNumber("of 2 to 4", x.side(1, 0, 1), 3.0);
        dueNumber("of 2 to 4", x.side(2, 0, 0), 3.0);
        x.role(2, NONE);
        x.begin();
        due("equal ones", x.run(2), 2);
        dueNumber("the least number", x.side(0, 0, 1), 1.0);
        dueNumber("the least number", x.side(2, 0, 0), 1.0);
        dueNumber("the least number", x.side(2, 0, 1), 2.0);
        due("the other half is heavier", x.run(1), 1);
        dueNumber("the other half", x.side(3, 0, 0), 3.0);
    }

    private static void fullOfBoxes() {
        BoxIntegrals x = drawn(0.0, 1.0);
        int zero = number(x, 0.0);
        x.role(1, of(x, 4, 0, zero));
        x.begin();
        due("90", x.run(90), 90);
        due("99 are more than there is room", x.run(99), 9);
        due("100", x.boxes(), 100);
        due("FULL", x.run(5), FULL);
        due("FULL for none", x.run(0), FULL);
        due("OUTSIDE before FULL", x.run(100), OUTSIDE);
        due("99 steps", x.count(3), 99);
        x.begin();
        due("99 at once", x.run(99), 99);
        due("no box of number 100", x.kind(100), UNKNOWN);
        due("a box of number 99", x.kind(99), 3);
    }

    private static void widestSide() {
        BoxIntegrals x = drawn(0.0, 1.0);
        x.draw(b(5.0), b(6.0));
        x.draw(b(-1.0), b(1.0));
        int zero = number(x, 0.0);
        x.role(0, of(x, 4, 0, zero));
        x.begin();
        due("step", x.run(1), 1);
        dueNumber("the widest is cut", x.side(0, 2, 1), 0.0);
        dueNumber("the widest is cut", x.side(1, 2, 0), 0.0);
        dueNumber("another is not", x.side(0, 0, 1), 1.0);
        due("steps", x.run(2), 2);
        dueNumber("of several the least draw", x.side(0, 0, 1), 0.5);
        dueNumber("of several the least draw", x.side(2, 0, 0), 0.5);
        dueNumber("of several the least draw", x.side(0, 1, 1), 6.0);
        dueNumber("box 1 as well", x.side(1, 0, 1), 0.5);
        dueNumber("box 1 as well", x.side(3, 0, 0), 0.5);
        dueNumber("box 1 as well", x.side(3, 2, 0), 0.0);
        BoxIntegrals wide = drawn(-MOST, MOST);
        wide.role(1, 0);
        wide.begin();
        due("a width without end is TIGHT", wide.run(1), 0);
        due("a width without end is TIGHT", wide.count(4), 1);
    }

    // promise 7
    private static void boxes() {
        BoxIntegrals x = drawn(-1.0, 2.0);
        due("no RUN", x.boxes(), 0);
        x.role(0, 0);
        x.begin();
        due("one", x.boxes(), 1);
        x.run(4);
        due("five", x.boxes(), 5);
        x.role(0, 0);
        due("ended", x.boxes(), 0);
    }

    // promise 8
    private static void kind() {
        double[][] ofSides = {{1.0, 2.0}, {-2.0, -1.0}, {-1.0, 1.0}, {0.0, 1.0}, {-1.0, 0.0}, {-1.0, -0.0}, {-0.0, 1.0}};
        int[] ofCondition = {1, 0, 3, 3, 0, 0, 3};
        int[] ofQuestion = {1, 2, 3, 3, 2, 2, 3};
        for (int i = 0; i < ofSides.length; i++) {
            BoxIntegrals x = drawn(ofSides[i][0], ofSides[i][1]);
            x.role(0, 0);
            x.begin();
            due("by the condition, " + i, x.kind(0), ofCondition[i]);
            x.role(0, NONE);
            x.role(1, 0);
            x.begin();
            due("by the question, " + i, x.kind(0), ofQuestion[i]);
            x.role(0, number(x, 1.0));
            x.begin();
            due("by both, " + i, x.kind(0), ofQuestion[i]);
            x.role(0, number(x, 0.0));
            x.begin();
            due("OUT ahead, " + i, x.kind(0), 0);
            x.role(0, number(x, NAN));
            x.begin();
            due("OPEN, " + i, x.kind(0), 3);
        }
        BoxIntegrals x = drawn(0.0, 1.0);
        due("no RUN", x.kind(0), UNKNOWN);
        x.begin();
        due("without both YES", x.kind(0), 1);
        for (int wrong : WRONG_NUMBERS) {
            due("no such box", x.kind(wrong), UNKNOWN);
        }
        due("no such box", x.kind(1), UNKNOWN);
    }

    // promise 9
    private static void side() {
        BoxIntegrals x = drawn(-0.0, 3.0);
        dueThrownSide(x, 0, 0, 0);
        x.role(0, 0);
        x.begin();
        dueNumber("lo", x.side(0, 0, 0), -0.0);
        dueNumber("hi", x.side(0, 0, 1), 3.0);
        x.run(1);
        dueNumber("cut", x.side(0, 0, 1), 1.5);
        dueNumber("cut", x.side(1, 0, 0), 1.5);
        for (int wrong : WRONG_NUMBERS) {
            dueThrownSide(x, wrong, 0, 0);
            dueThrownSide(x, 0, wrong, 0);
            dueThrownSide(x, 0, 0, wrong);
        }
        dueThrownSide(x, 2, 0, 0);
        dueThrownSide(x, 0, 1, 0);
        dueThrownSide(x, 0, 2, 1);
        dueThrownSide(x, 0, 0, 2);
        due("still there", x.boxes(), 2);
    }

    // promise 10
    private static void weight() {
        BoxIntegrals x = drawn(1.0, 3.0);
        due("no RUN", x.weight(0, 0), 0L);
        x.begin();
        dueNumber("low", x.weight(0, 0), down(2.0, 2));
        dueNumber("high", x.weight(0, 1), up(2.0, 2));
        for (int wrong : WRONG_NUMBERS) {
            due("no such box", x.weight(wrong, 0), 0L);
            due("no such end", x.weight(0, wrong), 0L);
        }
        due("no such box", x.weight(1, 1), 0L);
        due("no such end", x.weight(0, 2), 0L);
        x.role(2, 0);
        x.begin();
        dueNumber("low by 1", x.weight(0, 0), down(2.0, 3));
        dueNumber("high by 3", x.weight(0, 1), Math.nextUp(up(2.0, 2) * 3.0));
        x.draw(b(0.0), b(4.0));
        x.role(3, of(x, 12, 0, 0));
        x.begin();
        dueNumber("a density below 0.0", x.weight(0, 0), 0.0);
        dueNumber("a density below 0.0", x.weight(0, 1), TINY);
        x.role(3, number(x, NAN));
        x.begin();
        dueNumber("a density that may be all", x.weight(0, 0), 0.0);
        dueNumber("a density that may be all", x.weight(0, 1), INF);
        x.role(2, number(x, INF));
        x.role(3, number(x, -1.0));
        x.begin();
        dueNumber("infinite by 0.0", x.weight(0, 1), INF);
        dueNumber("the greatest by 0.0", x.weight(0, 0), 0.0);
        BoxIntegrals wide = drawn(-MOST, MOST);
        wide.begin();
        dueNumber("a width without end", wide.weight(0, 0), Math.nextDown(MOST));
        dueNumber("a width without end", wide.weight(0, 1), INF);
    }

    // promise 11
    private static void enclosed() {
        BoxIntegrals x = drawn(-3.0, 2.0);
        x.draw(b(4.0), b(8.0));
        int y = x.node(0, 1, 0, 0L);
        due("no RUN", x.enclosed(0, 0, 0), 0L);
        x.begin();
        for (int wrong : WRONG_NUMBERS) {
            due("no such box", x.enclosed(wrong, 0, 0), 0L);
            due("no such node", x.enclosed(0, wrong, 0), 0L);
            due("no such end", x.enclosed(0, 0, wrong), 0L);
        }
        due("no such box", x.enclosed(1, 0, 0), 0L);
        due("no such node", x.enclosed(0, 2, 0), 0L);
        due("no such end", x.enclosed(0, 0, 2), 0L);
        dueEnds("a draw", x, 0, -3.0, 2.0);
        dueEnds("a number", x, number(x, -0.0), -0.0, -0.0);
        dueEnds("no number", x, number(x, NAN), -INF, INF);
        dueEnds("infinite", x, number(x, INF), INF, INF);
        dueEnds("+", x, of(x, 2, 0, y), Math.nextDown(1.0), Math.nextUp(10.0));
        dueEnds("-", x, of(x, 3, 0, y), Math.nextDown(-11.0), Math.nextUp(-2.0));
        dueEnds("*", x, of(x, 4, 0, y), Math.nextDown(-24.0), Math.nextUp(16.0));
        dueEnds("* itself", x, of(x, 4, 0, 0), Math.nextDown(-6.0), Math.nextUp(9.0));
        dueEnds("/", x, of(x, 5, 0, y), Math.nextDown(-0.75), Math.nextUp(0.5));
        dueEnds("/ with 0 in it", x, of(x, 5, y, 0), -INF, INF);
        dueEnds("min", x, of(x, 6, y, 0), -3.0, 2.0);
        dueEnds("max", x, of(x, 7, 0, y), 4.0, 8.0);
        dueEnds("abs", x, of(x, 8, 0, 0), 0.0, 3.0);
        dueEnds("abs of one above", x, of(x, 8, y, 0), 4.0, 8.0);
        int below = of(x, 12, y, 0);
        dueEnds("the opposite", x, below, -8.0, -4.0);
        dueEnds("abs of one below", x, of(x, 8, below, 0), 4.0, 8.0);
        dueEnds("root of one below", x, of(x, 9, 0, 0), -INF, INF);
        dueEnds("root", x, of(x, 9, y, 0), Math.nextDown(2.0), Math.nextUp(Math.sqrt(8.0)));
        dueEnds("square", x, of(x, 10, 0, 0), 0.0, Math.nextUp(9.0));
        dueEnds("square of one below", x, of(x, 10, below, 0), Math.nextDown(16.0), Math.nextUp(64.0));
        dueEnds("/ one below", x, of(x, 5, 0, below), Math.nextDown(-0.5), Math.nextUp(0.75));
        x.run(1);
        due("nodes of a RUN that goes on", x.boxes(), 1);
    }

    private static void enclosedEdges() {
        BoxIntegrals x = drawn(-2.5, 2.5);
        x.begin();
        int nought = number(x, 0.0);
        int minus = number(x, -0.0);
        int most = number(x, MOST);
        int inf = number(x, INF);
        int line = number(x, NAN);
        dueEnds("floor", x, of(x, 11, 0, 0), -3.0, 2.0);
        dueEnds("int", x, of(x, 15, 0, 0), -2.0, 2.0);
        dueEnds("int of THE WHOLE LINE", x, of(x, 15, line, 0), -2147483648.0, 2147483647.0);
        dueEnds("long of THE WHOLE LINE", x, of(x, 16, line, 0), -0x1p63, 0x1p63);
        dueEnds("float of the most", x, of(x, 13, most, 0), INF, INF);
        dueEnds("signum", x, of(x, 14, 0, 0), -1.0, 1.0);
        dueEnds("root of 0.0", x, of(x, 9, nought, 0), 0.0, TINY);
        dueEnds("root of -0.0", x, of(x, 9, minus, 0), 0.0, TINY);
        dueEnds("square of 0.0", x, of(x, 10, nought, 0), 0.0, TINY);
        dueEnds("square of THE WHOLE LINE", x, of(x, 10, line, 0), 0.0, INF);
        dueEnds("square of infinite", x, of(x, 10, inf, 0), MOST, INF);
        dueEnds("abs of -0.0 as it is", x, of(x, 8, minus, 0), -0.0, -0.0);
        dueEnds("abs of THE WHOLE LINE", x, of(x, 8, line, 0), 0.0, INF);
        dueEnds("0.0 + 0.0", x, of(x, 2, nought, nought), -TINY, TINY);
        dueEnds("-0.0 * 0.0", x, of(x, 4, minus, nought), -TINY, TINY);
        dueEnds("infinite - infinite", x, of(x, 3, inf, inf), -INF, INF);
        dueEnds("infinite + infinite", x, of(x, 2, inf, inf), MOST, INF);
        dueEnds("infinite * 0.0", x, of(x, 4, inf, nought), -INF, INF);
        dueEnds("infinite / infinite", x, of(x, 5, inf, inf), -INF, INF);
        dueEnds("/ 0.0", x, of(x, 5, inf, nought), -INF, INF);
        dueEnds("/ infinite", x, of(x, 5, most, inf), -TINY, TINY);
        dueEnds("one of four is none", x, of(x, 4, nought, line), -INF, INF);
        dueEnds("min of zeros", x, of(x, 6, nought, minus), -0.0, -0.0);
        dueEnds("max of zeros", x, of(x, 7, minus, nought), 0.0, 0.0);
    }

    // promise 12
    private static void value() {
        BoxIntegrals x = new BoxIntegrals();
        due("no node", x.value(0, 0L, 0L, 0L), 0L);
        due("a number", x.node(1, 0, 0, 0xfff0000000000123L), 0);
        due("without draws", x.value(0, 0L, 0L, 0L), 0x7ff8000000000000L);
        x.draw(b(0.0), b(1.0));
        x.draw(b(0.0), b(1.0));
        x.draw(b(0.0), b(1.0));
        for (int d = 0; d < 3; d++) {
            x.node(0, d, 0, 0L);
        }
        dueNumber("x", x.value(1, b(5.0), b(6.0), b(7.0)), 5.0);
        dueNumber("y", x.value(2, b(5.0), b(6.0), b(7.0)), 6.0);
        dueNumber("z", x.value(3, b(5.0), b(6.0), b(-7.0)), -7.0);
        due("no number, told as all are", x.value(3, 0L, 0L, -1L), 0x7ff8000000000000L);
        int sum = of(x, 2, 1, 2);
        int third = of(x, 5, sum, 3);
        dueNumber("(x + y) / z", x.value(third, b(1.0), b(0.5), b(3.0)), 0.5);
        dueNumber("(x + y) / 0", x.value(third, b(1.0), b(0.5), b(-0.0)), -INF);
        for (int wrong : WRONG_NUMBERS) {
            due("no such node", x.value(wrong, b(1.0), b(1.0), b(1.0)), 0L);
        }
        due("no such node", x.value(6, b(1.0), b(1.0), b(1.0)), 0L);
        valueOfEachKind();
    }

    private static void valueOfEachKind() {
        BoxIntegrals x = drawn(0.0, 1.0);
        x.draw(b(0.0), b(1.0));
        x.node(0, 1, 0, 0L);
        for (int kind = 2; kind <= 16; kind++) {
            of(x, kind, 0, 1);
        }
        double[] of = {-2.5, 0.1};
        double[] want = {-2.5 + 0.1, -2.6, -2.5 * 0.1, -25.0, -2.5, 0.1, 2.5, NAN, 6.25, -3.0, 2.5, -2.5, -1.0, -2.0, -2.0};
        for (int kind = 2; kind <= 16; kind++) {
            dueNumber("kind " + kind, x.value(kind, b(of[0]), b(of[1]), -1L), want[kind - 2]);
        }
        dueNumber("float", x.value(13, b(0.1), 0L, 0L), (double) 0.1f);
        dueNumber("root of -0.0", x.value(9, b(-0.0), 0L, 0L), -0.0);
        dueNumber("int of -0.5", x.value(15, b(-0.5), 0L, 0L), 0.0);
        dueNumber("long of no number", x.value(16, b(NAN), 0L, 0L), 0.0);
        dueNumber("long of infinite", x.value(16, b(INF), 0L, 0L), 0x1p63);
        dueNumber("0.0 / 0.0", x.value(5, 0L, 0L, 0L), NAN);
        dueNumber("-(no number)", x.value(12, b(NAN), 0L, 0L), NAN);
    }

    // promise 13
    private static void within() {
        BoxIntegrals x = drawn(0.0, 4.0);
        int root = of(x, 9, 0, 0);
        due("no RUN", x.within(0, 0, 0L, 0L, 0L), UNKNOWN);
        x.begin();
        for (int wrong : WRONG_NUMBERS) {
            due("no such box", x.within(wrong, 0, 0L, 0L, 0L), UNKNOWN);
            due("no such node", x.within(0, wrong, 0L, 0L, 0L), UNKNOWN);
        }
        due("no such box, no such point", x.within(1, 0, b(9.0), 0L, 0L), UNKNOWN);
        due("at lo", x.within(0, root, b(0.0), -1L, -1L), 2);
        due("at -0.0", x.within(0, root, b(-0.0), -1L, -1L), 2);
        due("at hi", x.within(0, root, b(4.0), -1L, -1L), 2);
        due("below", x.within(0, root, b(-TINY), 0L, 0L), 0);
        due("above", x.within(0, root, b(Math.nextUp(4.0)), 0L, 0L), 0);
        due("no number is in no box", x.within(0, root, b(NAN), 0L, 0L), 0);
        int less = of(x, 9, of(x, 12, 0, 0), 0);
        due("a value that is no number", x.within(0, less, b(1.0), 0L, 0L), 2);
        int strange = of(x, 15, of(x, 6, of(x, 12, of(x, 2, 0, number(x, 2.0)), 0), number(x, NAN)), 0);
        dueNumber("a value above its enclosure", x.value(strange, b(1.0), 0L, 0L), 0.0);
        due("a value above its enclosure", x.within(0, strange, b(1.0), 0L, 0L), 1);
        int high = of(x, 15, of(x, 7, of(x, 2, 0, number(x, 2.0)), number(x, NAN)), 0);
        due("a value below its enclosure", x.within(0, high, b(1.0), 0L, 0L), 1);
        x.draw(b(1.0), b(2.0));
        x.begin();
        due("the second is looked at", x.within(0, root, b(1.0), b(3.0), 0L), 0);
        due("the second is looked at", x.within(0, root, b(1.0), b(2.0), -1L), 2);
    }

    // promise 14
    private static void where() {
        BoxIntegrals x = drawn(0.0, 4.0);
        due("no RUN", x.where(b(1.0), 0L, 0L), NONE);
        x.role(0, of(x, 4, 0, number(x, 0.0)));
        x.begin();
        x.run(3);
        due("box 0", x.where(b(0.0), -1L, -1L), 0);
        due("the first of two", x.where(b(1.0), 0L, 0L), 0);
        due("box 2", x.where(b(1.5), 0L, 0L), 2);
        due("the first of two", x.where(b(2.0), 0L, 0L), 1);
        due("box 3", x.where(b(4.0), 0L, 0L), 3);
        due("none", x.where(b(4.5), 0L, 0L), NONE);
        due("none", x.where(b(-INF), 0L, 0L), NONE);
        due("no number", x.where(b(NAN), 0L, 0L), NONE);
        x.draw(b(5.0), b(6.0));
        x.draw(b(7.0), b(8.0));
        x.begin();
        due("three", x.where(b(1.0), b(5.0), b(8.0)), 0);
        due("three, the last is off", x.where(b(1.0), b(5.0), b(9.0)), NONE);
        due("three, the middle is off", x.where(b(1.0), b(4.0), b(8.0)), NONE);
    }

    /** DRAW 0 from -1 to 3, THE CONDITION that it is above 0: cut at 1, then at 0 and 2. */
    private static BoxIntegrals conditioned() {
        BoxIntegrals x = drawn(-1.0, 3.0);
        x.role(0, 0);
        int two = number(x, 2.0);
        x.role(1, of(x, 3, 0, two));
        return x;
    }

    // promise 15
    private static void mass() {
        BoxIntegrals x = conditioned();
        due("no RUN", x.mass(0, 0), 0L);
        x.begin();
        dueNumber("OPEN", x.mass(3, 0), down(4.0, 3));
        dueNumber("OPEN", x.mass(3, 1), up(4.0, 3));
        for (int kind = 0; kind < 3; kind++) {
            dueNumber("none of a kind", x.mass(kind, 0), 0.0);
            dueNumber("none of a kind", x.mass(kind, 1), 0.0);
        }
        due("steps", x.run(3), 3);
        due("OUT", x.kind(0), 0);
        due("NO, but for the last bit", x.kind(1), 3);
        due("OPEN", x.kind(2), 3);
        due("OPEN", x.kind(3), 3);
        dueNumber("OUT, low", x.mass(0, 0), down(1.0, 3));
        dueNumber("OUT, high", x.mass(0, 1), up(1.0, 3));
        double open = up(1.0, 3);
        open = Math.nextUp(Math.nextUp(open + up(1.0, 2)) + up(1.0, 2));
        dueNumber("OPEN, high", x.mass(3, 1), open);
        double low = down(1.0, 3);
        low = Math.nextDown(Math.nextDown(low + down(1.0, 2)) + down(1.0, 2));
        dueNumber("OPEN, low", x.mass(3, 0), low);
        for (int wrong : WRONG_NUMBERS) {
            due("no such kind", x.mass(wrong, 0), 0L);
            due("no such end", x.mass(0, wrong), 0L);
        }
        due("no such kind", x.mass(4, 0), 0L);
        due("no such end", x.mass(3, 2), 0L);
    }

    // promise 16
    private static void odds() {
        BoxIntegrals x = conditioned();
        due("no RUN", x.odds(0), 0L);
        due("no RUN", x.odds(1), 0L);
        x.begin();
        for (int wrong : WRONG_NUMBERS) {
            due("no such end", x.odds(wrong), 0L);
        }
        due("no such end", x.odds(2), 0L);
        dueNumber("all is OPEN", x.odds(0), 0.0);
        dueNumber("all is OPEN", x.odds(1), 1.0);
        x.role(0, NONE);
        x.role(1, NONE);
        x.begin();
        double yes = down(4.0, 3);
        dueNumber("all is YES", x.odds(0), Math.nextDown(yes / up(yes, 2)));
        dueNumber("all is YES", x.odds(1), 1.0);
        x.role(1, number(x, -1.0));
        x.begin();
        dueNumber("all is NO", x.odds(0), 0.0);
        dueNumber("all is NO", x.odds(1), Math.nextUp(TINY / Math.nextDown(TINY + down(4.0, 3))));
        x.role(0, number(x, -1.0));
        x.begin();
        dueNumber("all is OUT", x.odds(0), 0.0);
        dueNumber("all is OUT", x.odds(1), 1.0);
        BoxIntegrals one = drawn(0.0, 1.0);
        one.role(1, of(one, 3, 0, number(one, 0.25)));
        one.begin();
        one.run(40);
        holds("three quarters lie between", Double.longBitsToDouble(one.odds(0)) < 0.75
            && Double.longBitsToDouble(one.odds(1)) > 0.75);
        holds("and are near", Double.longBitsToDouble(one.odds(1)) - Double.longBitsToDouble(one.odds(0)) < 1e-5);
    }

    // promise 17
    private static void share() {
        BoxIntegrals x = drawn(-1.0, 3.0);
        for (int wrong : WRONG_NUMBERS) {
            due("OUTSIDE before STATE", x.share(wrong), OUTSIDE);
        }
        due("OUTSIDE", x.share(4), OUTSIDE);
        due("no RUN", x.share(0), STATE);
        x.begin();
        for (int kind = 0; kind < 4; kind++) {
            dueThrownShare(x, kind);
        }
        due("OUTSIDE ahead of the throw", x.share(4), OUTSIDE);
        due("the RUN stays", x.boxes(), 1);
        x.role(1, of(x, 3, 0, number(x, 0.3)));
        x.begin();
        due("none of it", x.share(1), 0);
        due("itself", x.share(3), 1);
        x.run(12);
        int open = count(x, 3);
        due("YES", x.share(1), count(x, 1) / open);
        due("NO", x.share(2), count(x, 2) / open);
        holds("some are more than the OPEN ones", count(x, 1) > open);
        due("OUT", x.share(0), 0);
    }

    private static int count(BoxIntegrals x, int kind) {
        int found = 0;
        for (int box = 0; box < x.boxes(); box++) {
            found += x.kind(box) == kind ? 1 : 0;
        }
        return found;
    }

    // promise 18
    private static void count() {
        BoxIntegrals x = drawn(1.0, Math.nextUp(1.0));
        for (int wrong : WRONG_NUMBERS) {
            due("OUTSIDE", x.count(wrong), OUTSIDE);
        }
        due("OUTSIDE", x.count(5), OUTSIDE);
        due("draws", x.count(0), 1);
        due("nodes", x.count(1), 1);
        due("boxes", x.count(2), 0);
        due("steps", x.count(3), 0);
        due("TIGHT", x.count(4), 0);
        x.begin();
        due("TIGHT, but not OPEN", x.count(4), 0);
        x.role(0, of(x, 3, 0, number(x, 1.0)));
        x.begin();
        due("TIGHT", x.count(4), 1);
        due("not split", x.run(3), 0);
        due("boxes", x.count(2), 1);
        due("steps", x.count(3), 0);
        x.draw(b(0.0), b(8.0));
        x.role(0, 2);
        x.begin();
        due("the widest side is not", x.count(4), 0);
        due("steps", x.run(2) + x.run(4), 6);
        due("steps", x.count(3), 6);
        due("boxes", x.count(2), 7);
        due("draws", x.count(0), 2);
        due("nodes", x.count(1), 3);
        x.role(0, NONE);
        due("steps without a RUN", x.count(3), 0);
    }

    // promise 19
    private static void clear() {
        BoxIntegrals x = drawn(0.0, 1.0);
        int one = number(x, 1.0);
        x.role(0, 0);
        x.role(1, one);
        x.role(2, one);
        x.begin();
        x.run(5);
        due("two nodes", x.clear(), 2);
        for (int what = 0; what <= 4; what++) {
            due("all is gone", x.count(what), 0);
        }
        due("no node", x.value(0, 0L, 0L, 0L), 0L);
        due("no draw", x.begin(), STATE);
        due("no box", x.kind(0), UNKNOWN);
        dueThrownSide(x, 0, 0, 0);
        due("anew", x.draw(b(0.0), b(1.0)), 0);
        due("anew", x.node(1, 0, 0, b(1.0)), 0);
        for (int role = 0; role < 3; role++) {
            due("no roles", x.role(role, 0), NONE);
        }
        x.clear();
        x.node(1, 0, 0, b(1.0));
        x.role(0, 0);
        x.clear();
        x.node(1, 0, 0, b(1.0));
        due("no condition", x.role(0, NONE), NONE);
        due("one node", x.clear(), 1);
        due("none", x.clear(), 0);
    }
}
