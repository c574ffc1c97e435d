/** TestBase cases of numbers: BITS, DOWN and UP, and the VALUE of each KIND of NODE. */
final class BoundaryNumbersTest extends TestBase {
    public static void main(String[] args) throws IllegalAccessException {
        holdAll(BoundaryNumbersTest.class);
    }

    private static void dueMade(int kind, double a, double b, double want) {
        BoxIntegrals x = drawn(0.0, 1.0, 0.0, 1.0);
        int made = of(x, kind, 0, 1);
        dueNumber("kind " + kind + " of " + a + ", " + b, x.value(made, b(a), b(b), 0L), want);
    }

    private static void dueMade(int kind, double a, double want) {
        dueMade(kind, a, 7.0, want);
    }

    /** a + -0.0 is a itself, a zero's sign too: so the ends of the sum are DOWN and UP of a. */
    private static void dueDownAndUp(double a, double down, double up) {
        BoxIntegrals x = drawn(0.0, 1.0);
        int sum = of(x, 2, number(x, a), number(x, -0.0));
        x.begin();
        dueEnds("DOWN and UP of " + a, x, sum, down, up);
    }

    @Sentence(of = "What it is", says = "NUMBERS are doubles, worked as the machine works them, told by BITS (as Double.doubleToLongBits tells them; any BITS may be given).")
    static void noNumberIsToldInOneWayOnly() {
        for (long bits : NO_NUMBERS) {
            BoxIntegrals x = drawn(0.0, 1.0);
            int given = x.node(1, 0, 0, bits);
            due("a number of BITS " + bits, x.value(given, 0L, 0L, 0L), 0x7ff8000000000000L);
            due("at a POINT of BITS " + bits, x.value(0, bits, 0L, 0L), 0x7ff8000000000000L);
            for (int kind = 2; kind <= 14; kind++) {
                due("kind " + kind + " of BITS " + bits, x.value(of(x, kind, given, 0), 0L, 0L, 0L),
                    0x7ff8000000000000L);
            }
        }
    }

    @Sentence(of = "What it is", says = "any BITS may be given")
    static void allOtherBitsAreToldAsGiven() {
        long[] all = {0L, Long.MIN_VALUE, 1L, Long.MIN_VALUE + 1L, 0x000fffffffffffffL, 0x0010000000000000L,
            0x7fefffffffffffffL, 0xffefffffffffffffL, 0x7ff0000000000000L, 0xfff0000000000000L, 0x123456789abcdefL};
        for (long bits : all) {
            BoxIntegrals x = drawn(0.0, 1.0);
            due("a number of BITS", x.value(x.node(1, 0, 0, bits), 0L, 0L, 0L), bits);
            due("at a POINT of BITS", x.value(0, bits, 0L, 0L), bits);
        }
    }

    @Sentence(of = "What it is", says = "An object is used for at most 512 calls after it has been made; what later calls answer is free.")
    static void theLastOf512CallsAnswersAsTheFirst() {
        BoxIntegrals x = new BoxIntegrals();
        int calls = 0;
        long one = b(1.0);
        for (int round = 0; round < 4; round++) {
            due("draw", x.draw(0L, one), 0);
            due("draw", x.draw(0L, one), 1);
            due("draw", x.draw(0L, one), 2);
            for (int i = 0; i < 3; i++) {
                due("node", x.node(0, i, 0, 0L), i);
            }
            due("nought", x.node(1, 0, 0, 0L), 3);
            for (int i = 4; i < 32; i++) {
                due("node", x.node(4, i - 4, 3, 0L), i);
            }
            for (int i = 0; i < 5; i++) {
                due("role", x.role(i, 31), NONE);
            }
            calls += 3 + 32 + 5;
            for (int i = 0; i < 40; i++) {
                due("begin", x.begin(), 3);
                due("run", x.run(99), 99);
                calls += 2;
            }
            due("clear", x.clear(), 32);
            calls++;
        }
        for (; calls < 509; calls++) {
            due("a refused call", x.draw(one, 0L), OUTSIDE);
        }
        due("call 510", x.draw(0L, one), 0);
        due("call 511", x.begin(), 1);
        due("call 512", x.boxes(), 1);
    }

    @Sentence(of = "Terms", says = "DOWN of a double is the next one below it, UP the next one above")
    static void downAndUpOfOrdinaryOnes() {
        dueDownAndUp(1.0, 1.0 - ULP / 2.0, 1.0 + ULP);
        dueDownAndUp(-1.0, -1.0 - ULP, -1.0 + ULP / 2.0);
        dueDownAndUp(1.5, 1.5 - ULP, 1.5 + ULP);
        dueDownAndUp(Double.MIN_NORMAL, Double.MIN_NORMAL - TINY, Double.MIN_NORMAL + TINY);
    }

    @Sentence(of = "Terms", says = "of one without end that lies on its side itself")
    static void downAndUpOfOneWithoutEnd() {
        dueDownAndUp(INF, MOST, INF);
        dueDownAndUp(-INF, -INF, -MOST);
    }

    @Sentence(of = "Terms", says = "(Math.nextDown, Math.nextUp: of one without end that lies on its side itself).")
    static void downAndUpAtTheEndsAndRoundZero() {
        dueDownAndUp(MOST, Math.nextDown(MOST), INF);
        dueDownAndUp(-MOST, -INF, Math.nextUp(-MOST));
        dueDownAndUp(0.0, -TINY, TINY);
        dueDownAndUp(-0.0, -TINY, TINY);
        dueDownAndUp(TINY, 0.0, 2 * TINY);
        dueDownAndUp(-TINY, -2 * TINY, -0.0);
    }

    @Sentence(of = "Terms", says = "THE WHOLE LINE is from -infinite to infinite.")
    static void theWholeLine() {
        BoxIntegrals x = drawn(0.0, 1.0);
        int line = number(x, NAN);
        x.begin();
        due("low end", x.enclosed(0, line, 0), 0xfff0000000000000L);
        due("high end", x.enclosed(0, line, 1), 0x7ff0000000000000L);
    }

    @Sentence(of = "Terms", says = "The VALUE of a NODE at a POINT (a number for each DRAW): 0 the DRAW's.")
    static void value0() {
        BoxIntegrals x = drawn(0.0, 1.0, 2.0, 3.0, 4.0, 5.0);
        dueNumber("of the first", x.value(0, b(0.25), b(2.25), b(4.25)), 0.25);
        dueNumber("of the second", x.value(1, b(0.25), b(2.25), b(4.25)), 2.25);
        dueNumber("of the third", x.value(2, b(0.25), b(2.25), b(4.25)), 4.25);
        dueNumber("outside of the SPAN", x.value(2, 0L, 0L, b(-99.0)), -99.0);
        dueNumber("without end", x.value(1, 0L, b(-INF), 0L), -INF);
        dueNumber("a zero's sign", x.value(0, b(-0.0), 0L, 0L), -0.0);
    }

    @Sentence(of = "Terms", says = "1 the number of the BITS.")
    static void value1() {
        double[] all = {0.0, -0.0, TINY, -TINY, MOST, -MOST, INF, -INF, NAN, 0.1};
        for (double one : all) {
            BoxIntegrals x = new BoxIntegrals();
            dueNumber("the number", x.value(number(x, one), b(5.0), b(6.0), b(7.0)), one);
        }
    }

    @Sentence(of = "Terms", says = "2 a + b.")
    static void value2() {
        dueMade(2, 1.0, 2.0, 3.0);
        dueMade(2, MOST, MOST, INF);
        dueMade(2, MOST, 0x1p970, INF);
        dueMade(2, MOST, Math.nextDown(0x1p970), MOST);
        dueMade(2, INF, -INF, NAN);
        dueMade(2, -INF, 1.0, -INF);
        dueMade(2, -0.0, -0.0, -0.0);
        dueMade(2, -0.0, 0.0, 0.0);
        dueMade(2, TINY, -TINY, 0.0);
        dueMade(2, 1.0, ULP / 2.0, 1.0);
        dueMade(2, 1.0 + ULP, ULP / 2.0, 1.0 + 2.0 * ULP);
        dueMade(2, 1.0, 0x1.8p-64, 1.0);
        dueMade(2, -TINY, MOST, MOST);
    }

    @Sentence(of = "Terms", says = "3 a - b.")
    static void value3() {
        dueMade(3, 1.0, 2.0, -1.0);
        dueMade(3, 1.0, 1.0, 0.0);
        dueMade(3, -0.0, 0.0, -0.0);
        dueMade(3, 0.0, 0.0, 0.0);
        dueMade(3, INF, INF, NAN);
        dueMade(3, 1.0, INF, -INF);
        dueMade(3, MOST, -MOST, INF);
        dueMade(3, Double.MIN_NORMAL, TINY, Math.nextDown(Double.MIN_NORMAL));
        dueMade(3, 1.0, 0x1.8p-64, 1.0);
        dueMade(3, 1.0, TINY, 1.0);
    }

    @Sentence(of = "Terms", says = "4 a * b.")
    static void value4() {
        dueMade(4, 3.0, -2.0, -6.0);
        dueMade(4, 0.0, INF, NAN);
        dueMade(4, -INF, -0.0, NAN);
        dueMade(4, -INF, 2.0, -INF);
        dueMade(4, -0.0, 5.0, -0.0);
        dueMade(4, -0.0, -5.0, 0.0);
        dueMade(4, MOST, 2.0, INF);
        dueMade(4, MOST, -1.0000000000000002, -INF);
        dueMade(4, TINY, 0.5, 0.0);
        dueMade(4, TINY, -0.5, -0.0);
        dueMade(4, TINY, Math.nextUp(0.5), TINY);
        dueMade(4, 3 * TINY, 0.5, 2 * TINY);
    }

    @Sentence(of = "Terms", says = "5 a / b.")
    static void value5() {
        dueMade(5, 6.0, -3.0, -2.0);
        dueMade(5, 1.0, 0.0, INF);
        dueMade(5, 1.0, -0.0, -INF);
        dueMade(5, 0.0, 0.0, NAN);
        dueMade(5, INF, INF, NAN);
        dueMade(5, INF, 0.0, INF);
        dueMade(5, INF, -2.0, -INF);
        dueMade(5, -1.0, INF, -0.0);
        dueMade(5, 0.0, -3.0, -0.0);
        dueMade(5, TINY, 2.0, 0.0);
        dueMade(5, MOST, 0.5, INF);
        dueMade(5, 1.0, 3.0, 0.3333333333333333);
    }

    @Sentence(of = "Terms", says = "6 Math.min(a, b).")
    static void value6() {
        dueMade(6, 2.0, 1.0, 1.0);
        dueMade(6, -2.0, -1.0, -2.0);
        dueMade(6, 0.0, -0.0, -0.0);
        dueMade(6, -0.0, 0.0, -0.0);
        dueMade(6, NAN, -INF, NAN);
        dueMade(6, -INF, NAN, NAN);
        dueMade(6, INF, MOST, MOST);
    }

    @Sentence(of = "Terms", says = "7 Math.max(a, b).")
    static void value7() {
        dueMade(7, 2.0, 1.0, 2.0);
        dueMade(7, -2.0, -1.0, -1.0);
        dueMade(7, 0.0, -0.0, 0.0);
        dueMade(7, -0.0, 0.0, 0.0);
        dueMade(7, NAN, INF, NAN);
        dueMade(7, INF, NAN, NAN);
        dueMade(7, -INF, -MOST, -MOST);
    }

    @Sentence(of = "Terms", says = "8 Math.abs(a).")
    static void value8() {
        dueMade(8, -2.5, 2.5);
        dueMade(8, 2.5, 2.5);
        dueMade(8, -0.0, 0.0);
        dueMade(8, -TINY, TINY);
        dueMade(8, -INF, INF);
        dueMade(8, NAN, NAN);
    }

    @Sentence(of = "Terms", says = "9 Math.sqrt(a).")
    static void value9() {
        dueMade(9, 2.0, 1.4142135623730951);
        dueMade(9, -TINY, NAN);
        dueMade(9, -INF, NAN);
        dueMade(9, NAN, NAN);
        dueMade(9, -0.0, -0.0);
        dueMade(9, 0.0, 0.0);
        dueMade(9, INF, INF);
        dueMade(9, TINY, 0x1p-537);
        dueMade(9, MOST, Math.nextDown(0x1p512));
    }

    @Sentence(of = "Terms", says = "10 a * a.")
    static void value10() {
        dueMade(10, -3.0, 9.0);
        dueMade(10, -0.0, 0.0);
        dueMade(10, -INF, INF);
        dueMade(10, -0x1p512, INF);
        dueMade(10, 0x1p-537, TINY);
        dueMade(10, -1e-200, 0.0);
        dueMade(10, NAN, NAN);
    }

    @Sentence(of = "Terms", says = "11 Math.floor(a).")
    static void value11() {
        dueMade(11, 2.5, 2.0);
        dueMade(11, -2.5, -3.0);
        dueMade(11, -3.0, -3.0);
        dueMade(11, TINY, 0.0);
        dueMade(11, -TINY, -1.0);
        dueMade(11, 0.0, 0.0);
        dueMade(11, -0.0, -0.0);
        dueMade(11, Math.nextDown(1.0), 0.0);
        dueMade(11, Math.nextDown(-1.0), -2.0);
        dueMade(11, 4503599627370495.5, 4503599627370495.0);
        dueMade(11, -4503599627370495.5, -4503599627370496.0);
        dueMade(11, -4503599627370497.0, -4503599627370497.0);
        dueMade(11, INF, INF);
        dueMade(11, -INF, -INF);
        dueMade(11, NAN, NAN);
    }

    @Sentence(of = "Terms", says = "12 -a.")
    static void value12() {
        dueMade(12, 2.5, -2.5);
        dueMade(12, 0.0, -0.0);
        dueMade(12, -0.0, 0.0);
        dueMade(12, INF, -INF);
        dueMade(12, -MOST, MOST);
        dueMade(12, NAN, NAN);
    }

    @Sentence(of = "Terms", says = "13 (double) (float) a.")
    static void value13() {
        dueMade(13, 0.1, 0.10000000149011612);
        dueMade(13, 1.0 + 0x1p-24, 1.0);
        dueMade(13, 1.0 + 0x3p-24, 1.0 + 0x1p-22);
        dueMade(13, 0x1.fffffep127, 0x1.fffffep127);
        dueMade(13, Math.nextDown(0x1.ffffffp127), 0x1.fffffep127);
        dueMade(13, 0x1.ffffffp127, INF);
        dueMade(13, -MOST, -INF);
        dueMade(13, 0x1p-150, 0.0);
        dueMade(13, -0x1p-150, -0.0);
        dueMade(13, Math.nextUp(0x1p-150), 0x1p-149);
        dueMade(13, 0x1.8p-149, 0x1p-148);
        dueMade(13, -TINY, -0.0);
        dueMade(13, -0.0, -0.0);
        dueMade(13, -INF, -INF);
        dueMade(13, NAN, NAN);
    }

    @Sentence(of = "Terms", says = "14 Math.signum(a).")
    static void value14() {
        dueMade(14, MOST, 1.0);
        dueMade(14, TINY, 1.0);
        dueMade(14, -TINY, -1.0);
        dueMade(14, -INF, -1.0);
        dueMade(14, 0.0, 0.0);
        dueMade(14, -0.0, -0.0);
        dueMade(14, NAN, NAN);
    }

    @Sentence(of = "Terms", says = "15 (double) (int) a.")
    static void value15() {
        dueMade(15, 2.9, 2.0);
        dueMade(15, -2.9, -2.0);
        dueMade(15, -0.9, 0.0);
        dueMade(15, -0.0, 0.0);
        dueMade(15, 2147483646.9, 2147483646.0);
        dueMade(15, 2147483647.9, 2147483647.0);
        dueMade(15, 2147483648.0, 2147483647.0);
        dueMade(15, -2147483648.9, -2147483648.0);
        dueMade(15, -2147483649.0, -2147483648.0);
        dueMade(15, INF, 2147483647.0);
        dueMade(15, -INF, -2147483648.0);
        dueMade(15, NAN, 0.0);
    }

    @Sentence(of = "Terms", says = "16 (double) (long) a.")
    static void value16() {
        dueMade(16, 2147483648.9, 2147483648.0);
        dueMade(16, -2.9, -2.0);
        dueMade(16, 2251799813685248.5, 2251799813685248.0);
        dueMade(16, -4503599627370495.5, -4503599627370495.0);
        dueMade(16, 9007199254740991.0, 9007199254740991.0);
        dueMade(16, -0.9, 0.0);
        dueMade(16, -0.0, 0.0);
        dueMade(16, Math.nextDown(0x1p63), Math.nextDown(0x1p63));
        dueMade(16, 0x1p63, 0x1p63);
        dueMade(16, 0x1p64, 0x1p63);
        dueMade(16, -0x1p63, -0x1p63);
        dueMade(16, Math.nextDown(-0x1p63), -0x1p63);
        dueMade(16, INF, 0x1p63);
        dueMade(16, -INF, -0x1p63);
        dueMade(16, NAN, 0.0);
    }
}
