/** TestBase cases of THE ENCLOSURE, KIND by KIND. */
final class BoundaryEnclosuresTest extends TestBase {
    public static void main(String[] args) throws IllegalAccessException {
        holdAll(BoundaryEnclosuresTest.class);
    }

    /** A NODE whose ENCLOSURE is from lo to hi: a number, a DRAW, or a part of THE WHOLE LINE. */
    private static int ranged(BoxIntegrals x, double lo, double hi) {
        if (b(lo) == b(hi)) {
            return number(x, lo);
        }
        if (lo > -INF && hi < INF) {
            return x.node(0, x.draw(b(lo), b(hi)), 0, 0L);
        }
        int node = number(x, NAN);
        node = lo > -INF ? of(x, 7, node, number(x, lo)) : node;
        return hi < INF ? of(x, 6, node, number(x, hi)) : node;
    }

    private static void dueMade(int kind, double[] a, double[] b, double low, double high) {
        BoxIntegrals x = new BoxIntegrals();
        int first = ranged(x, a[0], a[1]);
        int second = ranged(x, b[0], b[1]);
        int made = of(x, kind, first, second);
        x.draw(b(0.0), b(1.0));
        x.begin();
        dueEnds("a as asked for", x, first, a[0], a[1]);
        dueEnds("b as asked for", x, second, b[0], b[1]);
        dueEnds("kind " + kind + " of " + a[0] + " to " + a[1] + ", " + b[0] + " to " + b[1], x, made, low, high);
    }

    private static void dueMade(int kind, double[] a, double low, double high) {
        dueMade(kind, a, new double[] {7.0, 8.0}, low, high);
    }

    private static double[] to(double lo, double hi) {
        return new double[] {lo, hi};
    }

    private static final double[] LINE = {-INF, INF};

    @Sentence(of = "Terms", says = "THE ENCLOSURE of a NODE over a BOX (for each DRAW a side, lo to hi) is a low and a high end: 0 the side.")
    static void enclosure0() {
        BoxIntegrals x = open(-0.0, 1.0, -MOST, 0.5);
        dueEnds("the SPAN, a zero's sign too", x, 0, -0.0, 1.0);
        dueEnds("the SPAN of the other", x, 1, -MOST, 0.5);
        BoxIntegrals split = open(0.0, 1.0);
        split.run(1);
        dueEnds("the side of BOX 0", split, 0, 0.0, 0.5);
        dueNumber("the side of BOX 1", split.enclosed(1, 0, 0), 0.5);
        dueNumber("the side of BOX 1", split.enclosed(1, 0, 1), 1.0);
    }

    @Sentence(of = "Terms", says = "1 the number twice;")
    static void enclosure1() {
        double[] all = {0.0, -0.0, TINY, 0.1, -MOST, INF, -INF};
        for (double one : all) {
            BoxIntegrals x = drawn(0.0, 1.0);
            int number = number(x, one);
            x.begin();
            dueEnds("of " + one, x, number, one, one);
        }
    }

    @Sentence(of = "Terms", says = "THE WHOLE LINE, if it is not a number.")
    static void enclosure1OfNoNumber() {
        for (long bits : NO_NUMBERS) {
            BoxIntegrals x = drawn(0.0, 1.0);
            int none = x.node(1, 0, 0, bits);
            x.begin();
            dueEnds("of BITS " + bits, x, none, -INF, INF);
        }
    }

    @Sentence(of = "Terms", says = "Of others by the ENCLOSURES of a, b, al to ah, bl to bh: 2: DOWN(al + bl), UP(ah + bh).")
    static void enclosure2() {
        dueMade(2, to(1.0, 2.0), to(4.0, 8.0), down(5.0, 1), up(10.0, 1));
        dueMade(2, to(-1.0, 2.0), to(1.0, 8.0), -TINY, up(10.0, 1));
        dueMade(2, to(0.0, 0.0), to(-0.0, -0.0), -TINY, TINY);
        dueMade(2, to(MOST, MOST), to(MOST, MOST), MOST, INF);
        dueMade(2, to(-MOST, -MOST), to(-MOST, -1.0), -INF, up(-MOST, 1));
        dueMade(2, to(-INF, -INF), to(-INF, 1.0), -INF, -MOST);
        dueMade(2, to(INF, INF), to(1.0, INF), MOST, INF);
    }

    @Sentence(of = "Terms", says = "3: DOWN(al - bh), UP(ah - bl).")
    static void enclosure3() {
        dueMade(3, to(1.0, 2.0), to(4.0, 8.0), down(-7.0, 1), up(-2.0, 1));
        dueMade(3, to(1.0, 2.0), to(0.5, 1.0), -TINY, up(1.5, 1));
        dueMade(3, to(0.0, 0.0), to(0.0, 0.0), -TINY, TINY);
        dueMade(3, to(MOST, MOST), to(-MOST, -MOST), MOST, INF);
        dueMade(3, to(1.0, 2.0), LINE, -INF, INF);
        dueMade(3, to(-INF, 1.0), to(2.0, 3.0), -INF, up(-1.0, 1));
    }

    @Sentence(of = "Terms", says = "4: of al * bl, al * bh, ah * bl, ah * bh DOWN of the least, UP of the greatest (-0.0 is less than 0.0).")
    static void enclosure4() {
        dueMade(4, to(2.0, 3.0), to(5.0, 7.0), down(10.0, 1), up(21.0, 1));
        dueMade(4, to(-3.0, -2.0), to(-7.0, -5.0), down(10.0, 1), up(21.0, 1));
        dueMade(4, to(-3.0, -2.0), to(5.0, 7.0), down(-21.0, 1), up(-10.0, 1));
        dueMade(4, to(2.0, 3.0), to(-7.0, -5.0), down(-21.0, 1), up(-10.0, 1));
        dueMade(4, to(-2.0, 3.0), to(-5.0, 7.0), down(-15.0, 1), up(21.0, 1));
        dueMade(4, to(-3.0, 2.0), to(-7.0, 5.0), down(-15.0, 1), up(21.0, 1));
        dueMade(4, to(-3.0, 2.0), to(-5.0, 7.0), down(-21.0, 1), up(15.0, 1));
        dueMade(4, to(0.0, 1.0), to(-2.0, -1.0), down(-2.0, 1), TINY);
        dueMade(4, to(0.0, 1.0), to(1.0, 2.0), -TINY, up(2.0, 1));
        dueMade(4, to(-0.0, -0.0), to(0.0, 1.0), -TINY, TINY);
        dueMade(4, to(1.0, MOST), to(2.0, 4.0), down(2.0, 1), INF);
        dueMade(4, to(MOST, MOST), to(2.0, 4.0), MOST, INF);
        dueMade(4, to(TINY, 1.0), to(0.5, 1.0), -TINY, up(1.0, 1));
    }

    @Sentence(of = "Terms", says = "5: if bl is not above 0 and bh not below 0 THE WHOLE LINE,")
    static void enclosure5WithNoughtInB() {
        double[][] all = {{0.0, 1.0}, {-0.0, 1.0}, {-1.0, 0.0}, {-1.0, -0.0}, {-1.0, 1.0}, {0.0, 0.0}, {-0.0, -0.0},
            {-TINY, TINY}, {-INF, INF}};
        for (double[] b : all) {
            dueMade(5, to(1.0, 2.0), b, -INF, INF);
            dueMade(5, to(0.0, 0.0), b, -INF, INF);
        }
    }

    @Sentence(of = "Terms", says = "else likewise of al / bl, al / bh, ah / bl, ah / bh.")
    static void enclosure5() {
        dueMade(5, to(1.0, 2.0), to(4.0, 8.0), down(0.125, 1), up(0.5, 1));
        dueMade(5, to(-1.0, 2.0), to(4.0, 8.0), down(-0.25, 1), up(0.5, 1));
        dueMade(5, to(-2.0, -1.0), to(4.0, 8.0), down(-0.5, 1), up(-0.125, 1));
        dueMade(5, to(1.0, 2.0), to(-8.0, -4.0), down(-0.5, 1), up(-0.125, 1));
        dueMade(5, to(-2.0, 1.0), to(-8.0, -4.0), down(-0.25, 1), up(0.5, 1));
        dueMade(5, to(1.0, 2.0), to(TINY, 1.0), down(1.0, 1), INF);
        dueMade(5, to(1.0, 2.0), to(-1.0, -TINY), -INF, up(-1.0, 1));
        dueMade(5, to(0.0, 1.0), to(1.0, 2.0), -TINY, up(1.0, 1));
        dueMade(5, to(1.0, 2.0), to(4.0, INF), -TINY, up(0.5, 1));
        dueMade(5, to(1.0, 2.0), to(-INF, -4.0), down(-0.5, 1), TINY);
    }

    @Sentence(of = "Terms", says = "6, 7, 11, 13, 14, 15, 16: what the NODE makes of al (and bl), of ah (and bh).")
    static void enclosureByTheEnds() {
        dueMade(6, to(1.0, 4.0), to(2.0, 3.0), 1.0, 3.0);
        dueMade(6, to(0.0, 0.0), to(-0.0, 1.0), -0.0, 0.0);
        dueMade(7, to(1.0, 4.0), to(2.0, 3.0), 2.0, 4.0);
        dueMade(7, to(-1.0, -0.0), to(-2.0, 0.0), -1.0, 0.0);
        dueMade(11, to(-2.5, 2.5), -3.0, 2.0);
        dueMade(11, to(-0.0, Math.nextDown(1.0)), -0.0, 0.0);
        dueMade(11, LINE, -INF, INF);
        dueMade(13, to(-0x1.ffffffp127, 0x1p-150), -INF, 0.0);
        dueMade(13, to(-0.1, 0.1), (double) -0.1f, (double) 0.1f);
        dueMade(14, to(-TINY, 0.0), -1.0, 0.0);
        dueMade(14, LINE, -1.0, 1.0);
        dueMade(15, to(-2.5, 2.5), -2.0, 2.0);
        dueMade(15, to(-0.5, 0.5), 0.0, 0.0);
        dueMade(15, LINE, -2147483648.0, 2147483647.0);
        dueMade(16, to(-2.5, 2.5), -2.0, 2.0);
        dueMade(16, LINE, -0x1p63, 0x1p63);
    }

    @Sentence(of = "Terms", says = "12: -ah, -al.")
    static void enclosure12() {
        dueMade(12, to(-1.0, 2.0), -2.0, 1.0);
        dueMade(12, to(0.0, 2.0), -2.0, -0.0);
        dueMade(12, to(-0.0, -0.0), 0.0, 0.0);
        dueMade(12, to(1.0, INF), -INF, -1.0);
        dueMade(12, LINE, -INF, INF);
    }

    @Sentence(of = "Terms", says = "8: as a has it, if al is not below 0;")
    static void enclosure8OfOneNotBelow() {
        dueMade(8, to(1.0, 2.0), 1.0, 2.0);
        dueMade(8, to(0.0, 2.0), 0.0, 2.0);
        dueMade(8, to(TINY, MOST), TINY, MOST);
        dueMade(8, to(INF, INF), INF, INF);
        // -0.0 is not below 0: it stays as a has it
        dueMade(8, to(-0.0, 2.0), -0.0, 2.0);
        dueMade(8, to(-0.0, -0.0), -0.0, -0.0);
    }

    @Sentence(of = "Terms", says = "-ah, -al, if ah is not above 0;")
    static void enclosure8OfOneNotAbove() {
        dueMade(8, to(-2.0, -1.0), 1.0, 2.0);
        dueMade(8, to(-TINY, -0.0), 0.0, TINY);
        dueMade(8, to(-MOST, -TINY), TINY, MOST);
        dueMade(8, to(-INF, -1.0), 1.0, INF);
        // -(0.0) is -0.0, which is not below 0.0
        dueMade(8, to(-2.0, 0.0), -0.0, 2.0);
    }

    @Sentence(of = "Terms", says = "else 0.0 and Math.max(-al, ah).")
    static void enclosure8OfBoth() {
        dueMade(8, to(-1.0, 2.0), 0.0, 2.0);
        dueMade(8, to(-3.0, 2.0), 0.0, 3.0);
        dueMade(8, to(-TINY, TINY), 0.0, TINY);
        dueMade(8, LINE, 0.0, INF);
        dueMade(8, to(-INF, 1.0), 0.0, INF);
    }

    @Sentence(of = "Terms", says = "9: if al is below 0.0 THE WHOLE LINE;")
    static void enclosure9OfOneBelow() {
        dueMade(9, to(-TINY, 4.0), -INF, INF);
        dueMade(9, to(-4.0, -1.0), -INF, INF);
        dueMade(9, to(-INF, -INF), -INF, INF);
        dueMade(9, LINE, -INF, INF);
    }

    @Sentence(of = "Terms", says = "else DOWN(Math.sqrt(al)), UP(Math.sqrt(ah)).")
    static void enclosure9() {
        dueMade(9, to(4.0, 9.0), down(2.0, 1), up(3.0, 1));
        dueMade(9, to(2.0, 3.0), down(1.4142135623730951, 1), up(Math.sqrt(3.0), 1));
        dueMade(9, to(-0.0, 4.0), 0.0, up(2.0, 1));
        dueMade(9, to(TINY, 4.0), down(0x1p-537, 1), up(2.0, 1));
        dueMade(9, to(1.0, INF), down(1.0, 1), INF);
        dueMade(9, to(INF, INF), MOST, INF);
    }

    @Sentence(of = "Terms", says = "10: of the ENCLOSURE that 8 would have: DOWN(l * l), UP(h * h).")
    static void enclosure10() {
        dueMade(10, to(2.0, 3.0), down(4.0, 1), up(9.0, 1));
        dueMade(10, to(-3.0, -2.0), down(4.0, 1), up(9.0, 1));
        dueMade(10, to(-3.0, 2.0), 0.0, up(9.0, 1));
        dueMade(10, to(-2.0, 3.0), 0.0, up(9.0, 1));
        dueMade(10, to(0x1p512, 0x1p513), MOST, INF);
        dueMade(10, LINE, 0.0, INF);
        dueMade(10, to(INF, INF), MOST, INF);
    }

    @Sentence(of = "Terms", says = "Of 8, 9, 10 a low end below 0.0 is 0.0")
    static void aLowEndBelowNoughtOf8And9And10() {
        dueMade(8, to(-1.0, 1.0), 0.0, 1.0);
        dueMade(9, to(0.0, 4.0), 0.0, up(2.0, 1));
        dueMade(9, to(-0.0, -0.0), 0.0, TINY);
        dueMade(10, to(0.0, 2.0), 0.0, up(4.0, 1));
        dueMade(10, to(1e-200, 2.0), 0.0, up(4.0, 1));
        dueMade(10, to(0x1p-537, 2.0), 0.0, up(4.0, 1));
        dueMade(10, to(-2.0, -0.0), 0.0, up(4.0, 1));
    }

    @Sentence(of = "Terms", says = "(but of THE WHOLE LINE).")
    static void theWholeLineKeepsItsLowEnd() {
        dueMade(9, to(-1.0, 4.0), -INF, INF);
    }

    @Sentence(of = "Terms", says = "If an end, or one of four, is not a number, it is THE WHOLE LINE.")
    static void anEndThatIsNoNumber() {
        dueMade(2, to(INF, INF), to(-INF, 5.0), -INF, INF);
        dueMade(2, to(-INF, -INF), to(5.0, INF), -INF, INF);
        dueMade(3, to(INF, INF), to(5.0, INF), -INF, INF);
        dueMade(3, to(-INF, -INF), to(-INF, 5.0), -INF, INF);
    }

    @Sentence(of = "Terms", says = "or one of four, is not a number, it is THE WHOLE LINE.")
    static void oneOfFourThatIsNoNumber() {
        dueMade(4, to(0.0, 1.0), to(1.0, INF), -INF, INF);
        dueMade(4, to(0.0, 1.0), to(-INF, -1.0), -INF, INF);
        dueMade(4, to(1.0, INF), to(0.0, 1.0), -INF, INF);
        dueMade(4, to(-INF, -1.0), to(-1.0, -0.0), -INF, INF);
        dueMade(5, to(1.0, INF), to(1.0, INF), -INF, INF);
        dueMade(5, to(-INF, -1.0), to(1.0, INF), -INF, INF);
        dueMade(5, to(1.0, INF), to(-INF, -1.0), -INF, INF);
        dueMade(5, to(-INF, 1.0), to(-INF, -1.0), -INF, INF);
    }
}
