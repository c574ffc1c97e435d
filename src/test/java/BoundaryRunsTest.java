/** TestBase cases of a RUN: its BOXES, roles, KINDS, WEIGHTS, STEPS, MASSES and ODDS. */
final class BoundaryRunsTest extends TestBase {
    public static void main(String[] args) throws IllegalAccessException {
        holdAll(BoundaryRunsTest.class);
    }

    @Sentence(of = "Terms", says = "A RUN has BOXES 0, 1, .., 100 at most;")
    static void aHundredBoxesAtMost() {
        BoxIntegrals x = open(0.0, 1.0);
        for (int i = 0; i < 4; i++) {
            x.run(40);
        }
        due("BOXES", x.boxes(), 100);
        due("the last", x.kind(99), OPEN);
        due("none behind it", x.kind(100), UNKNOWN);
    }

    @Sentence(of = "Terms", says = "at first one, the SPANS.")
    static void atFirstOneBoxTheSpans() {
        BoxIntegrals x = drawn(-0.0, TINY, -MOST, MOST, 1.5, 2.5);
        x.begin();
        due("BOXES", x.boxes(), 1);
        dueSide("the first SPAN", x, 0, 0, -0.0, TINY);
        dueSide("the second SPAN", x, 0, 1, -MOST, MOST);
        dueSide("the third SPAN", x, 0, 2, 1.5, 2.5);
    }

    @Sentence(of = "Terms", says = "THE CONDITION, THE QUESTION, and for each DRAW its DENSITY may be a NODE (at first none;")
    static void atFirstNoRoles() {
        BoxIntegrals none = new BoxIntegrals();
        due("THE CONDITION without DRAWS", none.role(0, number(none, 1.0)), NONE);
        due("THE QUESTION without DRAWS", none.role(1, 0), NONE);
        BoxIntegrals x = drawn(1.0, 2.0, 1.0, 2.0, 1.0, 2.0);
        for (int role = 0; role < 5; role++) {
            due("role " + role, x.role(role, 0), NONE);
        }
    }

    @Sentence(of = "Terms", says = "all are gone when a DRAW comes).")
    static void rolesAreGoneWhenADrawComes() {
        BoxIntegrals x = drawn(-2.0, -1.0, 1.0, 2.0);
        for (int role = 0; role < 4; role++) {
            x.role(role, 0);
        }
        due("a DRAW comes", x.draw(b(0.0), b(1.0)), 2);
        x.begin();
        due("no CONDITION, no QUESTION", x.kind(0), YES);
        double low = Math.nextDown(Math.nextDown(down(1.0, 2) * down(1.0, 1)) * down(1.0, 1));
        dueNumber("no DENSITIES", x.weight(0, 0), low);
        for (int role = 0; role < 5; role++) {
            due("role " + role, x.role(role, NONE), NONE);
        }
    }

    @Sentence(of = "Terms", says = "all are gone when a DRAW comes")
    static void rolesStayWhenADrawIsRefused() {
        BoxIntegrals x = drawn(0.0, 1.0);
        for (int role = 0; role < 3; role++) {
            x.role(role, 0);
        }
        due("refused", x.draw(b(1.0), b(1.0)), OUTSIDE);
        for (int role = 0; role < 3; role++) {
            due("role " + role, x.role(role, NONE), 0);
        }
    }

    private static int kindByQuestion(double lo, double hi) {
        BoxIntegrals x = drawn(lo, hi);
        x.role(1, 0);
        x.begin();
        return x.kind(0);
    }

    @Sentence(of = "Terms", says = "A NODE HOLDS over a BOX surely, if its low end is above 0.0,")
    static void holdsSurely() {
        due("low end the least above", kindByQuestion(TINY, 1.0), YES);
        due("low end 0.0", kindByQuestion(0.0, 1.0), OPEN);
        due("low end -0.0", kindByQuestion(-0.0, 1.0), OPEN);
        due("low end below", kindByQuestion(-TINY, 1.0), OPEN);
    }

    @Sentence(of = "Terms", says = "surely not, if its high end is not above 0.0;")
    static void holdsSurelyNot() {
        due("high end the least above", kindByQuestion(-1.0, TINY), OPEN);
        due("high end 0.0", kindByQuestion(-1.0, 0.0), NO);
        due("high end -0.0", kindByQuestion(-1.0, -0.0), NO);
        due("high end below", kindByQuestion(-1.0, -TINY), NO);
    }

    @Sentence(of = "Terms", says = "none HOLDS surely.")
    static void noneHoldsSurely() {
        BoxIntegrals x = drawn(-2.0, 1.0);
        x.begin();
        due("neither", x.kind(0), YES);
        x.role(0, number(x, 1.0));
        x.begin();
        due("no QUESTION", x.kind(0), YES);
        x.role(0, NONE);
        x.role(1, number(x, 1.0));
        x.begin();
        due("no CONDITION", x.kind(0), YES);
    }

    /** KIND of a BOX over which CONDITION and QUESTION are numbers; NAN may be anything. */
    private static int kindOf(double condition, double question) {
        BoxIntegrals x = drawn(0.0, 1.0);
        x.role(0, number(x, condition));
        x.role(1, number(x, question));
        x.begin();
        return x.kind(0);
    }

    @Sentence(of = "Terms", says = "KINDS of a BOX: OUT 0, if THE CONDITION surely does not hold;")
    static void kindOut() {
        due("whatever THE QUESTION", kindOf(0.0, 1.0), OUT);
        due("whatever THE QUESTION", kindOf(-1.0, -1.0), OUT);
        due("whatever THE QUESTION", kindOf(-0.0, NAN), OUT);
        BoxIntegrals x = drawn(0.0, 1.0);
        x.role(0, number(x, -INF));
        x.begin();
        due("without a QUESTION", x.kind(0), OUT);
    }

    @Sentence(of = "Terms", says = "YES 1, if it surely does, and THE QUESTION, too;")
    static void kindYes() {
        due("both", kindOf(TINY, TINY), YES);
        due("THE CONDITION may not", kindOf(NAN, 1.0), OPEN);
    }

    @Sentence(of = "Terms", says = "NO 2, if it surely does, and THE QUESTION surely not;")
    static void kindNo() {
        due("surely not", kindOf(TINY, 0.0), NO);
        due("surely not", kindOf(INF, -INF), NO);
        due("THE CONDITION may not", kindOf(NAN, -1.0), OPEN);
    }

    @Sentence(of = "Terms", says = "else OPEN 3.")
    static void kindOpen() {
        due("THE QUESTION may", kindOf(1.0, NAN), OPEN);
        due("both may", kindOf(NAN, NAN), OPEN);
        BoxIntegrals x = drawn(0.0, 1.0);
        x.role(0, number(x, NAN));
        x.begin();
        due("THE CONDITION may, without a QUESTION", x.kind(0), OPEN);
    }

    @Sentence(of = "Terms", says = "THE WEIGHT of a BOX: from (1.0, 1.0) on, for each DRAW in order twice: times its width (DOWN(hi - lo), UP(hi - lo)),")
    static void weightByWidths() {
        BoxIntegrals x = drawn(1.0, 3.0);
        x.begin();
        dueWeight("one DRAW", x, 0, down(2.0, 2), up(2.0, 2));
        BoxIntegrals two = drawn(0.1, 0.7, -1.3, 5.1);
        two.begin();
        double low = Math.nextDown(Math.nextDown(0.7 - 0.1));
        double high = Math.nextUp(Math.nextUp(0.7 - 0.1));
        dueWeight("two DRAWS", two, 0, Math.nextDown(low * Math.nextDown(5.1 + 1.3)),
            Math.nextUp(high * Math.nextUp(5.1 + 1.3)));
    }

    @Sentence(of = "Terms", says = "times its width (DOWN(hi - lo), UP(hi - lo)),")
    static void weightOfTheLeastAndTheGreatestWidth() {
        BoxIntegrals least = drawn(0.0, TINY);
        least.begin();
        // DOWN of the least is 0.0, and DOWN of 1.0 * 0.0 lies below 0.0
        dueWeight("the least width", least, 0, 0.0, 3 * TINY);
        BoxIntegrals most = drawn(-MOST, MOST);
        most.begin();
        dueWeight("a width without end", most, 0, Math.nextDown(MOST), INF);
    }

    @Sentence(of = "Terms", says = "then times its DENSITY over the BOX, if it has one")
    static void weightByDensities() {
        BoxIntegrals x = drawn(0.1, 0.7, 0.3, 1.7, 0.9, 1.1);
        x.role(2, of(x, 2, 1, 2));
        x.role(4, of(x, 4, 0, 1));
        x.begin();
        double[] low = {1.0, Math.nextDown(0.7 - 0.1), Math.nextDown(0.3 + 0.9), Math.nextDown(1.7 - 0.3),
            Math.nextDown(1.1 - 0.9), Math.nextDown(0.1 * 0.3)};
        double[] high = {1.0, Math.nextUp(0.7 - 0.1), Math.nextUp(1.7 + 1.1), Math.nextUp(1.7 - 0.3),
            Math.nextUp(1.1 - 0.9), Math.nextUp(0.7 * 1.7)};
        for (int i = 1; i < low.length; i++) {
            low[0] = Math.nextDown(low[0] * low[i]);
            high[0] = Math.nextUp(high[0] * high[i]);
        }
        dueWeight("the first and the third have one", x, 0, low[0], high[0]);
    }

    @Sentence(of = "Terms", says = "(each: an end below 0.0 is 0.0).")
    static void anEndOfADensityBelowNought() {
        BoxIntegrals x = drawn(-3.0, 2.0);
        x.role(2, 0);
        x.begin();
        dueWeight("the low end", x, 0, 0.0, Math.nextUp(up(5.0, 2) * 2.0));
        BoxIntegrals both = drawn(-3.0, -TINY);
        both.role(2, 0);
        both.begin();
        dueWeight("both ends", both, 0, 0.0, TINY);
        BoxIntegrals two = drawn(1.0, 2.0, 1.0, 2.0);
        int minus = number(two, -4.0);
        two.role(2, minus);
        two.role(3, minus);
        two.begin();
        dueWeight("twice below is not above", two, 0, 0.0, TINY);
    }

    @Sentence(of = "Terms", says = "(l, h) times (m, n): DOWN(l * m), below 0.0 0.0, or 0.0 if that is not a number;")
    static void lowEndTimesLowEnd() {
        BoxIntegrals x = drawn(1.0, 2.0);
        x.role(2, number(x, 0.0));
        x.begin();
        dueNumber("DOWN(l * m) below 0.0", x.weight(0, 0), 0.0);
        x.role(2, number(x, TINY));
        x.begin();
        dueNumber("DOWN(l * m) is 0.0", x.weight(0, 0), 0.0);
        x.role(2, number(x, 2 * TINY));
        x.begin();
        dueNumber("DOWN(l * m) just above", x.weight(0, 0), TINY);
        BoxIntegrals none = drawn(0.0, TINY);
        none.role(2, number(none, INF));
        none.begin();
        dueNumber("0.0 times infinite", none.weight(0, 0), 0.0);
        x.role(2, number(x, INF));
        x.begin();
        dueNumber("DOWN of infinite", x.weight(0, 0), MOST);
    }

    @Sentence(of = "Terms", says = "UP(h * n), infinite, if that is not a number.")
    static void highEndTimesHighEnd() {
        BoxIntegrals x = drawn(-MOST, MOST);
        x.role(2, number(x, 0.0));
        x.begin();
        dueNumber("infinite times 0.0", x.weight(0, 1), INF);
        x.role(2, number(x, -1.0));
        x.begin();
        dueNumber("infinite times one below 0.0", x.weight(0, 1), INF);
        BoxIntegrals small = drawn(1.0, 2.0);
        small.role(2, number(small, -0.0));
        small.begin();
        dueNumber("UP of 0.0", small.weight(0, 1), TINY);
    }

    @Sentence(of = "Terms", says = "TO SPLIT a BOX: the side with the greatest hi - lo (the least DRAW of several)")
    static void theWidestSideIsSplit() {
        BoxIntegrals x = open(0.0, 1.0, 0.0, 1.0 + ULP, 0.0, 1.0);
        x.run(1);
        dueSide("the second is wider", x, 0, 1, 0.0, 0.5 + ULP / 2.0);
        dueSide("the first stays", x, 0, 0, 0.0, 1.0);
        dueSide("the third stays", x, 0, 2, 0.0, 1.0);
        BoxIntegrals last = open(0.0, 1.0, 0.0, 1.0, 5.0, 7.0);
        last.run(1);
        dueSide("the third is wider", last, 0, 2, 5.0, 6.0);
        dueSide("the first stays", last, 0, 0, 0.0, 1.0);
    }

    @Sentence(of = "Terms", says = "(the least DRAW of several)")
    static void theLeastDrawOfSeveralIsSplit() {
        BoxIntegrals x = open(0.0, 1.0, 3.0, 5.0, 7.0, 9.0);
        x.run(1);
        dueSide("the second, not the third", x, 0, 1, 3.0, 4.0);
        dueSide("the third stays", x, 0, 2, 7.0, 9.0);
        BoxIntegrals again = open(0.0, 1.0, 0.0, 1.0);
        again.run(3);
        dueSide("BOX 0 is as wide by both again", again, 0, 1, 0.0, 0.5);
        again.run(1);
        dueSide("the first again", again, 0, 0, 0.0, 0.25);
        dueSide("the second stays", again, 0, 1, 0.0, 0.5);
        // 1.0 + 1e-20 is 1.0: what counts is hi - lo, as it is worked
        BoxIntegrals worked = open(0.0, 1.0, -1e-20, 1.0);
        worked.run(1);
        dueSide("the first of two as wide", worked, 0, 0, 0.0, 0.5);
        dueSide("the second stays", worked, 0, 1, -1e-20, 1.0);
    }

    @Sentence(of = "Terms", says = "at m = lo + (hi - lo) / 2.0:")
    static void theMiddle() {
        BoxIntegrals x = open(1.0, 4.0);
        x.run(1);
        dueSide("the half", x, 0, 0, 1.0, 2.5);
        BoxIntegrals great = open(0x1p1023, MOST);
        great.run(1);
        dueSide("lo + hi would have no end", great, 0, 0, 0x1p1023, 0x1.8p1023);
        // -0.3 + 1.1 and 1.1 - -0.3 are cut at other places
        double lo = -0.3;
        double hi = 1.1;
        holds("the two ways differ", lo + (hi - lo) / 2.0 != (lo + hi) / 2.0);
        BoxIntegrals worked = open(lo, hi);
        worked.run(1);
        dueSide("as it is worked", worked, 0, 0, lo, lo + (hi - lo) / 2.0);
    }

    @Sentence(of = "Terms", says = "this BOX has lo to m then, a new one (the next number) m to hi;")
    static void theTwoHalves() {
        BoxIntegrals x = open(0.0, 8.0, 1.0, 2.0);
        x.run(1);
        due("BOXES", x.boxes(), 2);
        dueSide("this BOX", x, 0, 0, 0.0, 4.0);
        dueSide("the new one", x, 1, 0, 4.0, 8.0);
        dueSide("the other side of this BOX", x, 0, 1, 1.0, 2.0);
        dueSide("the other side of the new one", x, 1, 1, 1.0, 2.0);
        x.run(1);
        due("BOXES", x.boxes(), 3);
        dueSide("the next number", x, 2, 0, 2.0, 4.0);
        dueSide("this BOX", x, 0, 0, 0.0, 2.0);
        dueSide("another one stays", x, 1, 0, 4.0, 8.0);
        BoxIntegrals last = open(-0.0, 1.0, 1.0, 2.0, 4.0, 8.0);
        last.run(1);
        dueSide("the first side of the new one", last, 1, 0, -0.0, 1.0);
        dueSide("the second side of the new one", last, 1, 1, 1.0, 2.0);
        dueSide("the third side of the new one", last, 1, 2, 6.0, 8.0);
    }

    @Sentence(of = "Terms", says = "both have their own KIND, WEIGHT.")
    static void bothHalvesHaveTheirOwn() {
        BoxIntegrals x = drawn(-1.0, 1.0);
        x.role(1, 0);
        x.role(2, of(x, 2, 0, number(x, 5.0)));
        x.begin();
        due("at first", x.kind(0), OPEN);
        due("a STEP", x.run(1), 1);
        due("this BOX", x.kind(0), NO);
        due("the new one", x.kind(1), OPEN);
        dueWeight("this BOX", x, 0, Math.nextDown(down(1.0, 2) * Math.nextDown(4.0)),
            Math.nextUp(up(1.0, 2) * Math.nextUp(5.0)));
        dueWeight("the new one", x, 1, Math.nextDown(down(1.0, 2) * Math.nextDown(5.0)),
            Math.nextUp(up(1.0, 2) * Math.nextUp(6.0)));
    }

    private static void dueTight(String what, double lo, double hi, boolean tight) {
        BoxIntegrals x = open(lo, hi);
        due(what + ": is TIGHT", x.count(4), tight ? 1 : 0);
        due(what + ": is split", x.run(1), tight ? 0 : 1);
    }

    @Sentence(of = "Terms", says = "A BOX is TIGHT, if m is not above lo,")
    static void tightIfMIsNotAboveLo() {
        dueTight("m is lo, even", 1.0, 1.0 + ULP, true);
        dueTight("m is lo, 0.0", 0.0, TINY, true);
        dueTight("m is -0.0 and lo 0.0", -0.0, TINY, true);
        dueTight("m lies between", 1.0, 1.0 + 2.0 * ULP, false);
        dueTight("m lies between", 0.0, 2 * TINY, false);
    }

    @Sentence(of = "Terms", says = "or not below hi.")
    static void tightIfMIsNotBelowHi() {
        // the middle is as near to both, and hi is the even one
        dueTight("m is hi", 1.0 + ULP, 1.0 + 2.0 * ULP, true);
        dueTight("hi - lo is infinite, m above hi", -MOST, MOST, true);
        dueTight("m lies between", 1.0 + ULP, 1.0 + 3.0 * ULP, false);
        dueTight("hi - lo is just finite", -0x1p1022, 0x1p1023, false);
    }

    @Sentence(of = "Terms", says = "A BOX is TIGHT,")
    static void tightByTheWidestSideAlone() {
        BoxIntegrals narrow = open(1.0, 1.0 + ULP, 0.0, 1.0);
        due("a narrow side beside a wide one", narrow.count(4), 0);
        BoxIntegrals endless = open(0.0, 1.0, -MOST, MOST);
        due("a side without end beside a short one", endless.count(4), 1);
        due("is not split", endless.run(9), 0);
    }

    @Sentence(of = "Terms", says = "A STEP splits, of the OPEN BOXES that are not TIGHT,")
    static void onlyOpenBoxesAreSplit() {
        BoxIntegrals x = drawn(-1.0, 3.0);
        x.role(0, 0);
        x.begin();
        due("-1 to 1 and 1 to 3", x.run(1), 1);
        due("the right one is YES", x.kind(1), YES);
        due("the left one is OPEN", x.kind(0), OPEN);
        due("-1 to 0 and 0 to 1", x.run(1), 1);
        due("the left one is OUT", x.kind(0), OUT);
        due("a STEP", x.run(1), 1);
        dueSide("OUT stays", x, 0, 0, -1.0, 0.0);
        dueSide("YES stays, though as heavy", x, 1, 0, 1.0, 3.0);
        dueSide("0 to 1 is split", x, 2, 0, 0.0, 0.5);
        BoxIntegrals no = drawn(0.0, 1.0);
        no.role(1, number(no, 0.0));
        no.begin();
        due("NO is not split", no.run(5), 0);
    }

    @Sentence(of = "Terms", says = "that are not TIGHT,")
    static void aTightBoxIsPassedOver() {
        BoxIntegrals x = drawn(1.0, 1.0 + 4.0 * ULP);
        // the DENSITY is 1 / (x - (1 - ULP / 2)): by far the greatest at the low end
        int steep = of(x, 5, number(x, 1.0), of(x, 3, 0, number(x, 1.0 - ULP / 2.0)));
        x.role(1, alwaysOpen(x));
        x.role(2, steep);
        x.begin();
        due("the first two STEPS", x.run(2), 2);
        dueSide("one ULP wide", x, 0, 0, 1.0, 1.0 + ULP);
        due("BOXES 0 and 2 are TIGHT", x.count(4), 2);
        holds("BOX 0 is the heaviest", d(x.weight(0, 1)) > d(x.weight(1, 1)));
        due("one more STEP", x.run(99), 1);
        dueSide("BOX 1 was split", x, 1, 0, 1.0 + 2.0 * ULP, 1.0 + 3.0 * ULP);
        due("all are TIGHT", x.count(4), 4);
    }

    @Sentence(of = "Terms", says = "the one with the greatest high end of WEIGHT")
    static void theHeaviestIsSplit() {
        BoxIntegrals x = drawn(0.0, 4.0);
        x.role(1, alwaysOpen(x));
        x.role(2, 0);
        x.begin();
        x.run(2);
        dueSide("2 to 4 weighs more", x, 1, 0, 2.0, 3.0);
        // by a width of the least number all low ends are 0.0
        BoxIntegrals high = drawn(0.0, 4.0, 0.0, TINY);
        high.role(1, alwaysOpen(high));
        high.role(2, 0);
        high.role(3, number(high, 1e300));
        high.begin();
        high.run(1);
        dueNumber("low end", high.weight(0, 0), 0.0);
        dueNumber("low end", high.weight(1, 0), 0.0);
        high.run(1);
        dueSide("2 to 4 has the greater high end", high, 1, 0, 2.0, 3.0);
    }

    @Sentence(of = "Terms", says = "(the least number of several).")
    static void theLeastNumberOfSeveralIsSplit() {
        BoxIntegrals x = open(0.0, 4.0);
        x.run(2);
        dueSide("BOX 0, not 1", x, 0, 0, 0.0, 1.0);
        dueSide("BOX 1 stays", x, 1, 0, 2.0, 4.0);
        BoxIntegrals endless = drawn(0.0, 4.0);
        endless.role(1, alwaysOpen(endless));
        endless.role(2, number(endless, INF));
        endless.begin();
        due("infinite ones", endless.run(3), 3);
        dueSide("always BOX 0", endless, 0, 0, 0.0, 0.5);
    }

    @Sentence(of = "Terms", says = "THE MASS of a KIND: from (0.0, 0.0) on the sums, BOX by BOX of that KIND in order, DOWN and UP at each,")
    static void massOfNoneAndOfSeveral() {
        BoxIntegrals x = drawn(0.0, 1.0);
        x.role(1, of(x, 3, 0, number(x, 0.3)));
        x.role(2, of(x, 2, 0, number(x, 0.1)));
        x.begin();
        for (int kind = 0; kind < 3; kind++) {
            dueNumber("none of KIND " + kind, x.mass(kind, 0), 0.0);
            dueNumber("none of KIND " + kind, x.mass(kind, 1), 0.0);
        }
        x.run(12);
        for (int kind = 0; kind < 4; kind++) {
            double low = 0.0;
            double high = 0.0;
            for (int box = 0; box < 13; box++) {
                if (x.kind(box) == kind) {
                    low = Math.nextDown(low + d(x.weight(box, 0)));
                    high = Math.nextUp(high + d(x.weight(box, 1)));
                }
            }
            dueNumber("KIND " + kind, x.mass(kind, 0), low);
            dueNumber("KIND " + kind, x.mass(kind, 1), high);
        }
        due("some are YES", x.share(YES) > 0 ? 1 : 0, 1);
        due("some are NO", x.share(NO) > 0 ? 1 : 0, 1);
    }

    @Sentence(of = "Terms", says = "a low end below 0.0 is 0.0.")
    static void aLowEndOfAMassBelowNought() {
        BoxIntegrals x = open(0.0, TINY);
        dueNumber("one BOX of 0.0", x.mass(OPEN, 0), 0.0);
        dueNumber("its high end", x.mass(OPEN, 1), 4 * TINY);
        BoxIntegrals two = open(0.0, 2 * TINY);
        two.run(1);
        dueNumber("two BOXES of 0.0", two.mass(OPEN, 0), 0.0);
        dueNumber("their high end", two.mass(OPEN, 1), 8 * TINY);
    }

    @Sentence(of = "Terms", says = "DOWN and UP at each")
    static void massesWithoutEnd() {
        BoxIntegrals x = drawn(0.0, 1.0);
        x.role(1, alwaysOpen(x));
        x.role(2, number(x, INF));
        x.begin();
        x.run(2);
        dueNumber("DOWN of infinite", x.mass(OPEN, 0), MOST);
        dueNumber("UP of infinite", x.mass(OPEN, 1), INF);
    }

    /** A RUN with BOXES of all KINDS: OUT below 0.4, NO below 0.7, YES above it. */
    private static BoxIntegrals ofAllKinds() {
        BoxIntegrals x = drawn(0.0, 1.0);
        x.role(0, of(x, 3, 0, number(x, 0.4)));
        x.role(1, of(x, 3, 0, number(x, 0.7)));
        x.begin();
        x.run(20);
        for (int kind = 0; kind < 4; kind++) {
            holds("some are of KIND " + kind, d(x.mass(kind, 1)) > 0.0);
        }
        return x;
    }

    @Sentence(of = "Terms", says = "THE ODDS: with Y, N, O of YES, NO, OPEN: low Yl / UP(UP(Yl + Nh) + Oh), DOWN;")
    static void lowOdds() {
        BoxIntegrals x = ofAllKinds();
        double all = Math.nextUp(Math.nextUp(d(x.mass(YES, 0)) + d(x.mass(NO, 1))) + d(x.mass(OPEN, 1)));
        dueNumber("some of all KINDS", x.odds(0), Math.nextDown(d(x.mass(YES, 0)) / all));
        BoxIntegrals yes = drawn(0.0, 1.0);
        yes.begin();
        double low = down(1.0, 3);
        dueNumber("all is YES", yes.odds(0), Math.nextDown(low / up(low, 2)));
    }

    @Sentence(of = "Terms", says = "high UP(Yh + Oh) / DOWN(UP(Yh + Oh) + Nl), UP;")
    static void highOdds() {
        BoxIntegrals x = ofAllKinds();
        double some = Math.nextUp(d(x.mass(YES, 1)) + d(x.mass(OPEN, 1)));
        dueNumber("some of all KINDS", x.odds(1),
            Math.nextUp(some / Math.nextDown(some + d(x.mass(NO, 0)))));
        BoxIntegrals no = drawn(0.0, 1.0);
        no.role(1, number(no, 0.0));
        no.begin();
        // UP(0.0 + 0.0) is the least number, and that by nearly 1.0 is it again
        dueNumber("all is NO", no.odds(1), 2 * TINY);
    }

    @Sentence(of = "Terms", says = "a low end that is no number, or below 0.0, is 0.0,")
    static void lowOddsBelowNought() {
        // no number is out of reach: Yl is finite, and what it is divided by lies above 0.0
        BoxIntegrals out = drawn(0.0, 1.0);
        out.role(0, number(out, 0.0));
        out.begin();
        dueNumber("all is OUT", out.odds(0), 0.0);
        dueNumber("all is OPEN", open(0.0, 1.0).odds(0), 0.0);
        BoxIntegrals x = drawn(-1.0, 3.0);
        x.role(1, 0);
        x.role(2, of(x, 5, number(x, 1.0), of(x, 2, 0, number(x, 1.0))));
        x.begin();
        x.run(1);
        due("one BOX is YES", x.kind(1), YES);
        dueNumber("and one OPEN without end", x.mass(OPEN, 1), INF);
        dueNumber("a part of what has no end", x.odds(0), 0.0);
    }

    @Sentence(of = "Terms", says = "a high end that is none, or above 1.0, is 1.0.")
    static void highOddsAboveOne() {
        // no number is out of reach: DOWN of infinite is finite, and UP of 0.0 is above it
        BoxIntegrals yes = drawn(0.0, 1.0);
        yes.begin();
        dueNumber("all is YES", yes.odds(1), 1.0);
        dueNumber("all is OPEN", open(0.0, 1.0).odds(1), 1.0);
        BoxIntegrals out = drawn(0.0, 1.0);
        out.role(0, number(out, 0.0));
        out.begin();
        dueNumber("all is OUT: the least by 0.0", out.odds(1), 1.0);
        BoxIntegrals nought = drawn(0.0, TINY);
        nought.role(1, number(nought, 0.0));
        nought.begin();
        dueNumber("all is NO, but of no WEIGHT", nought.odds(1), 1.0);
        dueNumber("infinite by the most", open(-MOST, MOST).odds(1), 1.0);
    }
}
