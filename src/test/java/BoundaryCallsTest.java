/** TestBase cases of the calls, promise 1 to 19: wrong inputs, which refusal comes first, and that nothing changes. */
final class BoundaryCallsTest extends TestBase {
    private static final String FIRST_THAT_FITS = "UNKNOWN (there is no such thing), OUTSIDE (a number is not as told), "
        + "STATE (not now), FULL: the first of these that fits, but where a call says so.";

    public static void main(String[] args) throws IllegalAccessException {
        holdAll(BoundaryCallsTest.class);
    }

    /** Three DRAWS, 32 NODES, all roles, and a RUN of three BOXES: NO, YES, OPEN. */
    private static BoxIntegrals busy() {
        BoxIntegrals x = drawn(-1.0, 3.0, 1.0, 2.0, 1.0, 2.0);
        for (int i = 3; i < 32; i++) {
            due("node", number(x, 2.0), i);
        }
        due("THE CONDITION", x.role(0, 31), NONE);
        due("THE QUESTION", x.role(1, 0), NONE);
        due("a DENSITY", x.role(2, 30), NONE);
        due("a DENSITY", x.role(3, 29), NONE);
        due("a DENSITY", x.role(4, 28), NONE);
        due("begin", x.begin(), 3);
        due("run", x.run(2), 2);
        return x;
    }

    private static void fillWithNodes(BoxIntegrals x) {
        for (int i = x.count(1); i < 32; i++) {
            due("one NODE more", number(x, 1.0), i);
        }
    }

    /** All that busy() left, asked for by every call that tells something; the roles last, for that ends the RUN. */
    private static void dueAsBusy(String what, BoxIntegrals x) {
        BoxIntegrals fresh = busy();
        for (int i = 0; i < 5; i++) {
            due(what + ": count(" + i + ") stays", x.count(i), fresh.count(i));
        }
        for (int box = 0; box < 3; box++) {
            due(what + ": KIND stays", x.kind(box), fresh.kind(box));
            for (int end = 0; end < 2; end++) {
                due(what + ": WEIGHT stays", x.weight(box, end), fresh.weight(box, end));
                for (int draw = 0; draw < 3; draw++) {
                    due(what + ": side stays", x.side(box, draw, end), fresh.side(box, draw, end));
                }
            }
        }
        due(what + ": ODDS stay", x.odds(1), fresh.odds(1));
        for (int node = 0; node < 32; node++) {
            due(what + ": VALUE stays", x.value(node, 0L, 1L, 2L), fresh.value(node, 0L, 1L, 2L));
        }
        int[] roles = {31, 0, 30, 29, 28};
        for (int role = 0; role < 5; role++) {
            due(what + ": role " + role + " stays", x.role(role, NONE), roles[role]);
        }
    }

    @Sentence(of = "Terms", says = "Refused, and nothing changes:")
    static void nothingChangesByARefusedDraw() {
        BoxIntegrals x = busy();
        due("draw", x.draw(b(1.0), b(0.0)), OUTSIDE);
        due("draw", x.draw(b(0.0), b(1.0)), FULL);
        dueAsBusy("draw", x);
    }

    @Sentence(of = "Terms", says = "Refused, and nothing changes:")
    static void nothingChangesByARefusedNode() {
        BoxIntegrals x = busy();
        due("node", x.node(17, 0, 0, 0L), OUTSIDE);
        due("node", x.node(2, 0, 32, 0L), UNKNOWN);
        due("node", x.node(1, 0, 0, 0L), FULL);
        dueAsBusy("node", x);
    }

    @Sentence(of = "Terms", says = "Refused, and nothing changes:")
    static void nothingChangesByARefusedRole() {
        BoxIntegrals x = busy();
        due("role", x.role(5, 0), OUTSIDE);
        due("role", x.role(-1, 0), OUTSIDE);
        for (int role = 0; role < 5; role++) {
            due("role", x.role(role, 32), UNKNOWN);
        }
        dueAsBusy("role", x);
    }

    @Sentence(of = "Terms", says = "Refused, and nothing changes:")
    static void nothingChangesByARefusedBeginOrRun() {
        BoxIntegrals x = busy();
        due("run", x.run(-1), OUTSIDE);
        due("run", x.run(100), OUTSIDE);
        due("run of none", x.run(0), 0);
        dueAsBusy("run", x);
        BoxIntegrals none = new BoxIntegrals();
        number(none, 1.0);
        none.role(0, 0);
        due("begin", none.begin(), STATE);
        due("run", none.run(1), STATE);
        due("NODES stay", none.count(1), 1);
        due("no BOX comes", none.boxes(), 0);
        due("a role stays", none.role(0, NONE), 0);
    }

    @Sentence(of = "Terms", says = "Refused, and nothing changes:")
    static void nothingChangesByARunThatIsFull() {
        BoxIntegrals x = full();
        long odds = x.odds(1);
        due("run", x.run(1), FULL);
        due("BOXES stay", x.boxes(), 100);
        due("STEPS stay", x.count(3), 99);
        due("ODDS stay", x.odds(1), odds);
    }

    @Sentence(of = "Terms", says = "Refused, and nothing changes:")
    static void nothingChangesByAWrongQuestion() {
        BoxIntegrals x = busy();
        due("kind", x.kind(3), UNKNOWN);
        dueThrownSide(x, 3, 0, 0);
        due("weight", x.weight(3, 0), 0L);
        due("enclosed", x.enclosed(0, 32, 0), 0L);
        due("value", x.value(32, 0L, 0L, 0L), 0L);
        due("within", x.within(3, 0, 0L, 0L, 0L), UNKNOWN);
        due("where", x.where(b(9.0), 0L, 0L), NONE);
        due("mass", x.mass(4, 0), 0L);
        due("odds", x.odds(2), 0L);
        due("share", x.share(4), OUTSIDE);
        due("count", x.count(5), OUTSIDE);
        dueAsBusy("a wrong question", x);
        BoxIntegrals yes = drawn(0.0, 1.0);
        yes.begin();
        dueThrownShare(yes, YES);
        due("the RUN stays", yes.boxes(), 1);
    }

    @Sentence(of = "Terms", says = "DRAWS 0 .. 2, as they come,")
    static void threeDrawsAsTheyCome() {
        BoxIntegrals x = new BoxIntegrals();
        for (int i = 0; i < 3; i++) {
            due("DRAWS", x.count(0), i);
            due("a DRAW", x.draw(b(i), b(i + 0.5)), i);
        }
        due("DRAWS", x.count(0), 3);
        due("none behind it", x.draw(b(3.0), b(3.5)), FULL);
        x.begin();
        for (int i = 0; i < 3; i++) {
            dueSide("DRAW " + i, x, 0, i, i, i + 0.5);
        }
    }

    @Sentence(of = "Terms", says = "each has a SPAN: lo below hi,")
    static void loBelowHi() {
        double[][] wrong = {{1.0, 1.0}, {0.0, 0.0}, {-0.0, 0.0}, {0.0, -0.0}, {1.0 + ULP, 1.0}, {TINY, 0.0},
            {0.0, -TINY}, {-1.0, -2.0}, {MOST, -MOST}};
        BoxIntegrals x = new BoxIntegrals();
        for (double[] span : wrong) {
            due("draw from " + span[0] + " to " + span[1], x.draw(b(span[0]), b(span[1])), OUTSIDE);
        }
        double[][] right = {{1.0, 1.0 + ULP}, {0.0, TINY}, {-0.0, TINY}, {-TINY, 0.0}, {-TINY, -0.0}, {-2.0, -1.0},
            {Math.nextDown(MOST), MOST}, {-MOST, Math.nextUp(-MOST)}};
        for (double[] span : right) {
            due("draw from " + span[0] + " to " + span[1], new BoxIntegrals().draw(b(span[0]), b(span[1])), 0);
        }
    }

    @Sentence(of = "Terms", says = "both finite.")
    static void bothFinite() {
        BoxIntegrals x = new BoxIntegrals();
        due("lo infinite", x.draw(b(-INF), b(0.0)), OUTSIDE);
        due("hi infinite", x.draw(b(0.0), b(INF)), OUTSIDE);
        due("both infinite", x.draw(b(-INF), b(INF)), OUTSIDE);
        for (long bits : NO_NUMBERS) {
            due("lo no number", x.draw(bits, b(1.0)), OUTSIDE);
            due("hi no number", x.draw(b(1.0), bits), OUTSIDE);
            due("both no number", x.draw(bits, bits), OUTSIDE);
        }
        due("no DRAW came", x.count(0), 0);
        due("the widest", x.draw(b(-MOST), b(MOST)), 0);
    }

    @Sentence(of = "Terms", says = "NODES 0 .. 31, as they come, each of a KIND")
    static void thirtyTwoNodesAsTheyCome() {
        BoxIntegrals x = new BoxIntegrals();
        for (int i = 0; i < 32; i++) {
            due("NODES", x.count(1), i);
            due("a NODE", number(x, i), i);
        }
        due("none behind it", number(x, 32.0), FULL);
        for (int i = 0; i < 32; i++) {
            dueNumber("NODE " + i, x.value(i, 0L, 0L, 0L), i);
        }
    }

    @Sentence(of = "Terms", says = "with a, b (earlier NODES; of 0 a DRAW), BITS (of 1):")
    static void partsAreEarlierNodes() {
        BoxIntegrals x = drawn(0.0, 1.0);
        number(x, 3.0);
        for (int kind = 2; kind <= 16; kind++) {
            due("a is the NODE itself, kind " + kind, of(x, kind, 2, 0), UNKNOWN);
            due("a is a later one, kind " + kind, of(x, kind, 3, 0), UNKNOWN);
        }
        for (int kind = 2; kind <= 7; kind++) {
            due("b is the NODE itself, kind " + kind, of(x, kind, 0, 2), UNKNOWN);
            due("b is a later one, kind " + kind, of(x, kind, 0, 3), UNKNOWN);
        }
        due("a is a DRAW that there is not, though a NODE", of(x, 0, 1), UNKNOWN);
        due("the last before it", of(x, 3, 1, 1), 2);
        BoxIntegrals full = new BoxIntegrals();
        for (int i = 0; i < 31; i++) {
            number(full, i);
        }
        due("NODE 31 of NODE 30", of(full, 2, 30, 30), 31);
        dueNumber("NODE 31", full.value(31, 0L, 0L, 0L), 60.0);
    }

    @Sentence(of = "Terms", says = "what is not named is not looked at.")
    static void whatIsNotNamedIsNotLookedAt() {
        for (int wrong : FAR_OFF) {
            BoxIntegrals x = new BoxIntegrals();
            x.draw(b(0.0), b(1.0));
            due("kind 0: b, BITS", x.node(0, 0, wrong, -1L), 0);
            due("kind 1: a, b", x.node(1, wrong, wrong, b(2.25)), 1);
            for (int kind = 2; kind <= 7; kind++) {
                due("kind " + kind + ": BITS", x.node(kind, 0, 1, -1L), kind);
            }
            for (int kind = 8; kind <= 16; kind++) {
                due("kind " + kind + ": b, BITS", x.node(kind, 1, wrong, -1L), kind);
            }
            x.begin();
            dueNumber("the DRAW's", x.value(0, b(0.5), -1L, -1L), 0.5);
            dueNumber("the number of the BITS", x.value(1, -1L, -1L, -1L), 2.25);
            dueNumber("a + b", x.value(2, b(0.5), -1L, -1L), 2.75);
            dueNumber("a root", x.value(9, -1L, -1L, -1L), 1.5);
            dueEnds("a root", x, 9, down(1.5, 1), up(1.5, 1));
        }
    }

    @Sentence(of = "Terms", says = FIRST_THAT_FITS)
    static void theFirstRefusalOfDraw() {
        BoxIntegrals x = drawn(0.0, 1.0, 0.0, 1.0, 0.0, 1.0);
        due("OUTSIDE before FULL", x.draw(b(1.0), b(0.0)), OUTSIDE);
        due("OUTSIDE before FULL", x.draw(b(0.0), b(INF)), OUTSIDE);
        due("FULL", x.draw(b(0.0), b(1.0)), FULL);
    }

    @Sentence(of = "Terms", says = FIRST_THAT_FITS)
    static void theFirstRefusalOfNode() {
        BoxIntegrals x = drawn(0.0, 1.0);
        for (int i = 1; i < 32; i++) {
            number(x, i);
        }
        due("UNKNOWN before FULL", x.node(0, 1, 0, 0L), UNKNOWN);
        due("UNKNOWN before FULL", x.node(2, 32, 0, 0L), UNKNOWN);
        due("UNKNOWN before FULL", x.node(2, 0, 32, 0L), UNKNOWN);
        due("UNKNOWN before FULL", x.node(16, -1, 0, 0L), UNKNOWN);
        due("FULL", x.node(16, 31, 0, 0L), FULL);
    }

    @Sentence(of = "Terms", says = FIRST_THAT_FITS)
    static void theFirstRefusalOfRunAndShare() {
        BoxIntegrals x = drawn(0.0, 1.0);
        due("run: OUTSIDE before STATE", x.run(-1), OUTSIDE);
        due("run: OUTSIDE before STATE", x.run(100), OUTSIDE);
        due("share: OUTSIDE before STATE", x.share(-1), OUTSIDE);
        due("share: OUTSIDE before STATE", x.share(4), OUTSIDE);
        BoxIntegrals full = full();
        due("run: OUTSIDE before FULL", full.run(-1), OUTSIDE);
        due("run: OUTSIDE before FULL", full.run(100), OUTSIDE);
    }

    @Sentence(of = "Promise 1: A new object", says = "No DRAWS, no NODES, no RUN.")
    static void aNewObject() {
        BoxIntegrals x = new BoxIntegrals();
        for (int what = 0; what < 5; what++) {
            due("count(" + what + ")", x.count(what), 0);
        }
        due("no DRAW to begin with", x.begin(), STATE);
        due("no DRAW for a NODE", x.node(0, 0, 0, 0L), UNKNOWN);
        due("no NODE for a role", x.role(0, 0), UNKNOWN);
        due("no NODE", x.value(0, 0L, 0L, 0L), 0L);
        due("no RUN", x.run(0), STATE);
        due("no RUN", x.boxes(), 0);
        due("no RUN", x.kind(0), UNKNOWN);
        dueThrownSide(x, 0, 0, 0);
        due("no NODES to clear", x.clear(), 0);
    }

    @Sentence(of = "Promise 1: A new object", says = "No DRAWS, no NODES, no RUN.")
    static void aNewObjectBesideAnother() {
        BoxIntegrals other = busy();
        BoxIntegrals x = new BoxIntegrals();
        due("no DRAWS", x.count(0), 0);
        due("no NODES", x.count(1), 0);
        due("no RUN", x.boxes(), 0);
        x.draw(b(7.0), b(8.0));
        number(x, 9.0);
        x.begin();
        due("DRAWS of the other one", other.count(0), 3);
        due("NODES of the other one", other.count(1), 32);
        due("BOXES of the other one", other.boxes(), 3);
        dueAsBusy("the other one", other);
    }

    @Sentence(of = "Promise 2: draw", says = "A DRAW: its number;")
    static void drawTellsItsNumber() {
        BoxIntegrals x = new BoxIntegrals();
        due("refused ones have none", x.draw(0L, 0L), OUTSIDE);
        due("the first", x.draw(b(0.0), b(1.0)), 0);
        due("refused ones have none", x.draw(0L, 0L), OUTSIDE);
        due("the second", x.draw(b(0.0), b(1.0)), 1);
        due("the third", x.draw(b(0.0), b(1.0)), 2);
    }

    @Sentence(of = "Promise 2: draw", says = "a RUN ends.")
    static void drawEndsARun() {
        BoxIntegrals x = open(0.0, 1.0);
        x.run(5);
        due("draw", x.draw(b(0.0), b(1.0)), 1);
        due("BOXES", x.boxes(), 0);
        due("STEPS", x.count(3), 0);
        due("run", x.run(1), STATE);
        due("where", x.where(b(0.5), b(0.5), 0L), NONE);
        due("NODES stay", x.count(1), 3);
    }

    @Sentence(of = "Promise 2: draw", says = "OUTSIDE;")
    static void drawOutside() {
        BoxIntegrals x = open(0.0, 1.0);
        due("lo is hi", x.draw(b(1.0), b(1.0)), OUTSIDE);
        due("lo above hi", x.draw(b(1.0), b(0.5)), OUTSIDE);
        due("no end", x.draw(b(-INF), b(0.5)), OUTSIDE);
        due("no number", x.draw(b(0.0), -1L), OUTSIDE);
        due("no DRAW came", x.count(0), 1);
        due("the RUN stays", x.boxes(), 1);
    }

    @Sentence(of = "Promise 2: draw", says = "FULL.")
    static void drawFull() {
        BoxIntegrals x = open(0.0, 1.0, 0.0, 1.0, 0.0, 1.0);
        due("a fourth", x.draw(b(0.0), b(1.0)), FULL);
        due("DRAWS", x.count(0), 3);
        due("the RUN stays", x.boxes(), 1);
    }

    @Sentence(of = "Promise 3: node", says = "A NODE: its number.")
    static void nodeTellsItsNumber() {
        BoxIntegrals x = open(0.0, 1.0);
        due("a refused one has none", x.node(99, 0, 0, 0L), OUTSIDE);
        due("a refused one has none", x.node(2, 0, 99, 0L), UNKNOWN);
        due("the next", number(x, 1.0), 3);
        due("the RUN stays", x.boxes(), 1);
        dueEnds("also in a RUN", x, 3, 1.0, 1.0);
    }

    @Sentence(of = "Promise 3: node", says = "OUTSIDE: the KIND (ahead of all);")
    static void nodeOfNoKind() {
        BoxIntegrals x = drawn(0.0, 1.0);
        for (int wrong : FAR_OFF) {
            due("KIND " + wrong, x.node(wrong, 0, 0, 0L), OUTSIDE);
            due("KIND " + wrong + ", ahead of UNKNOWN", x.node(wrong, -1, 99, 0L), OUTSIDE);
        }
        due("KIND 17", x.node(17, 0, 0, 0L), OUTSIDE);
        due("KIND 17, ahead of UNKNOWN", x.node(17, -1, 0, 0L), OUTSIDE);
        due("the last KIND", x.node(16, 0, 0, 0L), 1);
        due("the first KIND", x.node(0, 0, 0, 0L), 2);
        fillWithNodes(x);
        due("ahead of FULL", x.node(17, 0, 0, 0L), OUTSIDE);
        due("ahead of UNKNOWN and FULL", x.node(-1, 99, 99, 0L), OUTSIDE);
    }

    @Sentence(of = "Promise 3: node", says = "UNKNOWN: a, b, as the KIND has them;")
    static void nodeOfUnknownParts() {
        BoxIntegrals x = drawn(0.0, 1.0, 0.0, 1.0);
        for (int wrong : FAR_OFF) {
            due("kind 0", x.node(0, wrong, 0, 0L), UNKNOWN);
            for (int kind = 2; kind <= 16; kind++) {
                due("a, kind " + kind, x.node(kind, wrong, 0, 0L), UNKNOWN);
            }
            for (int kind = 2; kind <= 7; kind++) {
                due("b, kind " + kind, x.node(kind, 0, wrong, 0L), UNKNOWN);
            }
        }
        due("the third DRAW", x.node(0, 2, 0, 0L), UNKNOWN);
        due("no NODE came", x.count(1), 2);
    }

    @Sentence(of = "Promise 3: node", says = "FULL.")
    static void nodeFull() {
        BoxIntegrals x = drawn(0.0, 1.0);
        fillWithNodes(x);
        for (int kind = 0; kind <= 16; kind++) {
            due("kind " + kind, x.node(kind, 0, 0, 0L), FULL);
        }
        due("NODES", x.count(1), 32);
    }

    @Sentence(of = "Promise 4: role", says = "A role's NODE becomes another one (NONE: none):")
    static void roleBecomesAnother() {
        BoxIntegrals x = drawn(-2.0, -1.0);
        x.role(0, 0);
        x.begin();
        due("by the CONDITION", x.kind(0), OUT);
        x.role(0, number(x, 1.0));
        x.begin();
        due("by another one", x.kind(0), YES);
        x.role(0, 0);
        x.role(0, NONE);
        x.begin();
        due("by none", x.kind(0), YES);
    }

    @Sentence(of = "Promise 4: role", says = "0 THE CONDITION, 1 THE QUESTION, 2 + d the DENSITY of DRAW d: what it was;")
    static void roleTellsWhatItWas() {
        BoxIntegrals x = drawn(1.0, 2.0, 1.0, 2.0, 1.0, 2.0);
        for (int role = 0; role < 5; role++) {
            due("at first, role " + role, x.role(role, 0), NONE);
            due("then, role " + role, x.role(role, 2), 0);
            due("the same again, role " + role, x.role(role, 2), 2);
            due("to none, role " + role, x.role(role, NONE), 2);
            due("of none, role " + role, x.role(role, NONE), NONE);
        }
        int nought = number(x, 0.0);
        x.role(0, nought);
        x.begin();
        due("0 is THE CONDITION", x.kind(0), OUT);
        x.role(0, NONE);
        x.role(1, nought);
        x.begin();
        due("1 is THE QUESTION", x.kind(0), NO);
        // where the DENSITY is taken in shows in the last places
        double[] ends = {0.1, 0.7, 0.3, 1.7, 0.9, 1.1};
        double[] highs = new double[3];
        for (int draw = 0; draw < 3; draw++) {
            BoxIntegrals y = drawn(ends);
            y.role(2 + draw, number(y, 0.3));
            y.begin();
            highs[draw] = 1.0;
            for (int i = 0; i < 3; i++) {
                highs[draw] = Math.nextUp(highs[draw] * Math.nextUp(ends[2 * i + 1] - ends[2 * i]));
                highs[draw] = i == draw ? Math.nextUp(highs[draw] * 0.3) : highs[draw];
            }
            dueNumber("2 + d is the DENSITY of DRAW " + draw, y.weight(0, 1), highs[draw]);
        }
        holds("all differ", highs[0] != highs[1] && highs[1] != highs[2] && highs[2] != highs[0]);
    }

    @Sentence(of = "Promise 4: role", says = "a RUN ends.")
    static void roleEndsARun() {
        for (int role = 0; role < 3; role++) {
            BoxIntegrals x = open(0.0, 1.0);
            x.run(3);
            due("role " + role, x.role(role, NONE), role == 1 ? 2 : NONE);
            due("BOXES", x.boxes(), 0);
            due("STEPS", x.count(3), 0);
            due("run", x.run(0), STATE);
        }
        BoxIntegrals same = open(0.0, 1.0);
        due("the same NODE again", same.role(1, 2), 2);
        due("BOXES", same.boxes(), 0);
    }

    @Sentence(of = "Promise 4: role", says = "OUTSIDE: the role (also of a DRAW that there is not; ahead of all);")
    static void roleOutside() {
        for (int draws = 0; draws <= 3; draws++) {
            BoxIntegrals x = new BoxIntegrals();
            for (int i = 0; i < draws; i++) {
                x.draw(b(0.0), b(1.0));
            }
            int node = number(x, 1.0);
            for (int role = 0; role < 6; role++) {
                due("role " + role + " of " + draws + " DRAWS", x.role(role, node), role < 2 + draws ? NONE : OUTSIDE);
                due("an unknown NODE", x.role(role, 99), role < 2 + draws ? UNKNOWN : OUTSIDE);
            }
            for (int wrong : FAR_OFF) {
                due("role " + wrong, x.role(wrong, node), OUTSIDE);
                due("ahead of UNKNOWN", x.role(wrong, 99), OUTSIDE);
                due("for none", x.role(wrong, NONE), OUTSIDE);
            }
        }
    }

    @Sentence(of = "Promise 4: role", says = "UNKNOWN.")
    static void roleOfAnUnknownNode() {
        BoxIntegrals x = open(0.0, 1.0);
        int[] all = {-1, -2, -3, -4, -6, 3, 31, 32, Integer.MIN_VALUE, Integer.MAX_VALUE};
        for (int wrong : all) {
            for (int role = 0; role < 3; role++) {
                due("role " + role + " of NODE " + wrong, x.role(role, wrong), UNKNOWN);
            }
        }
        due("the RUN stays", x.boxes(), 1);
        due("the role stays", x.role(1, NONE), 2);
    }

    @Sentence(of = "Promise 5: begin", says = "A RUN begins anew: how many DRAWS it has.")
    static void beginAnew() {
        BoxIntegrals x = new BoxIntegrals();
        for (int draws = 1; draws <= 3; draws++) {
            x.draw(b(0.0), b(1.0));
            due("DRAWS", x.begin(), draws);
        }
        BoxIntegrals full = full();
        due("anew", full.begin(), 1);
        due("one BOX", full.boxes(), 1);
        due("no STEPS", full.count(3), 0);
        dueSide("the SPAN", full, 0, 0, 0.0, 1.0);
        dueWeight("its WEIGHT", full, 0, down(1.0, 2), up(1.0, 2));
        due("roles stay", full.kind(0), OPEN);
        due("it can be split again", full.run(99), 99);
        BoxIntegrals heavy = open(0.0, 1.0);
        heavy.role(2, number(heavy, 1e9));
        heavy.begin();
        heavy.run(9);
        heavy.role(2, NONE);
        heavy.begin();
        due("anew", heavy.run(5), 5);
        for (int box = 0; box < 6; box++) {
            holds("no BOX of the RUN before is split", d(heavy.weight(box, 1)) < 1.0);
        }
    }

    @Sentence(of = "Promise 5: begin", says = "STATE: there is no DRAW.")
    static void beginWithoutADraw() {
        BoxIntegrals x = new BoxIntegrals();
        due("a new object", x.begin(), STATE);
        number(x, 1.0);
        due("with a NODE", x.begin(), STATE);
        due("no RUN", x.boxes(), 0);
        x.draw(b(0.0), b(1.0));
        due("with a DRAW", x.begin(), 1);
        x.clear();
        due("cleared", x.begin(), STATE);
    }

    @Sentence(of = "Promise 6: run", says = "Up to n STEPS (0 .. 99),")
    static void upToNSteps() {
        BoxIntegrals x = open(0.0, 1.0);
        due("none", x.run(0), 0);
        due("BOXES", x.boxes(), 1);
        due("one", x.run(1), 1);
        due("BOXES", x.boxes(), 2);
        due("seven", x.run(7), 7);
        due("BOXES", x.boxes(), 9);
        due("STEPS of all runs", x.count(3), 8);
        due("99 at once", open(0.0, 1.0).run(99), 99);
    }

    @Sentence(of = "Promise 6: run", says = "as long as there is a BOX to be split,")
    static void asLongAsThereIsABoxToBeSplit() {
        BoxIntegrals sure = drawn(0.0, 1.0);
        sure.begin();
        due("none is OPEN", sure.run(99), 0);
        BoxIntegrals tight = open(1.0, 1.0 + ULP);
        due("all are TIGHT", tight.run(99), 0);
        BoxIntegrals some = open(1.0, 1.0 + 8.0 * ULP);
        due("until all are TIGHT", some.run(99), 7);
        due("no more", some.run(99), 0);
        due("all are TIGHT", some.count(4), 8);
    }

    @Sentence(of = "Promise 6: run", says = "and no more than 100 BOXES come: how many.")
    static void noMoreThanAHundredBoxesCome() {
        BoxIntegrals x = open(0.0, 1.0);
        due("97", x.run(97), 97);
        due("98 BOXES", x.boxes(), 98);
        due("of three only two", x.run(3), 2);
        due("100 BOXES", x.boxes(), 100);
        BoxIntegrals exactly = open(0.0, 1.0);
        due("98", exactly.run(98), 98);
        due("one more", exactly.run(1), 1);
        due("100 BOXES", exactly.boxes(), 100);
    }

    @Sentence(of = "Promise 6: run", says = "OUTSIDE;")
    static void runOutside() {
        BoxIntegrals x = open(0.0, 1.0);
        for (int wrong : FAR_OFF) {
            due("run(" + wrong + ")", x.run(wrong), OUTSIDE);
        }
        due("run(100)", x.run(100), OUTSIDE);
        due("nothing is split", x.boxes(), 1);
    }

    @Sentence(of = "Promise 6: run", says = "STATE: no RUN;")
    static void runWithoutARun() {
        BoxIntegrals x = drawn(0.0, 1.0);
        due("run(0)", x.run(0), STATE);
        due("run(99)", x.run(99), STATE);
        x.begin();
        due("with one", x.run(0), 0);
        x.role(0, NONE);
        due("ended", x.run(0), STATE);
    }

    @Sentence(of = "Promise 6: run", says = "FULL: 100 BOXES (also when n is 0).")
    static void runFull() {
        BoxIntegrals x = full();
        due("run(0)", x.run(0), FULL);
        due("run(1)", x.run(1), FULL);
        due("run(99)", x.run(99), FULL);
        BoxIntegrals nearly = open(0.0, 1.0);
        nearly.run(98);
        due("99 BOXES", nearly.run(0), 0);
        // 128 ULPS: 100 BOXES are there before all are TIGHT; with 64 all are TIGHT at 64
        BoxIntegrals tight = open(1.0, 1.0 + 64.0 * ULP);
        tight.run(99);
        due("64 BOXES, all TIGHT", tight.run(99), 0);
    }

    @Sentence(of = "Promise 7: boxes", says = "BOXES; 0: no RUN.")
    static void boxesWithAndWithoutARun() {
        BoxIntegrals x = drawn(0.0, 1.0);
        due("not begun", x.boxes(), 0);
        x.role(1, alwaysOpen(x));
        x.begin();
        due("begun", x.boxes(), 1);
        x.run(99);
        due("the most", x.boxes(), 100);
        x.role(1, NONE);
        due("ended by a role", x.boxes(), 0);
        x.begin();
        x.draw(b(0.0), b(1.0));
        due("ended by a DRAW", x.boxes(), 0);
        x.begin();
        x.clear();
        due("ended by clear", x.boxes(), 0);
    }

    @Sentence(of = "Promise 8: kind", says = "KIND of a BOX. UNKNOWN.")
    static void kindOfNoBox() {
        BoxIntegrals x = drawn(0.0, 1.0);
        due("no RUN", x.kind(0), UNKNOWN);
        x.role(1, alwaysOpen(x));
        x.begin();
        x.run(2);
        due("the last", x.kind(2), OPEN);
        due("the next", x.kind(3), UNKNOWN);
        for (int wrong : FAR_OFF) {
            due("BOX " + wrong, x.kind(wrong), UNKNOWN);
        }
        x.begin();
        due("a BOX of the RUN before", x.kind(1), UNKNOWN);
        x.role(1, NONE);
        due("ended", x.kind(0), UNKNOWN);
    }

    @Sentence(of = "Promise 9: side", says = "BITS of an end (0 lo, 1 hi) of the side of a DRAW.")
    static void sideOfADraw() {
        BoxIntegrals x = open(-0.0, 1.0, -MOST, 0.5, TINY, 2 * TINY);
        due("lo, a zero's sign too", x.side(0, 0, 0), Long.MIN_VALUE);
        due("hi", x.side(0, 0, 1), b(1.0));
        due("lo", x.side(0, 1, 0), b(-MOST));
        due("hi", x.side(0, 1, 1), b(0.5));
        due("lo", x.side(0, 2, 0), 1L);
        due("hi", x.side(0, 2, 1), 2L);
    }

    @Sentence(of = "Promise 9: side", says = "ArrayIndexOutOfBoundsException: there is no such BOX, DRAW, end.")
    static void sideOfNoSuchThing() {
        BoxIntegrals x = open(0.0, 1.0, 0.0, 1.0);
        x.run(2);
        dueSide("the last of all", x, 2, 1, 0.5, 1.0);
        dueThrownSide(x, 3, 0, 0);
        dueThrownSide(x, 99, 0, 0);
        dueThrownSide(x, 100, 0, 0);
        dueThrownSide(x, 0, 2, 0);
        dueThrownSide(x, 0, 3, 0);
        dueThrownSide(x, 0, 0, 2);
        for (int wrong : FAR_OFF) {
            dueThrownSide(x, wrong, 0, 0);
            dueThrownSide(x, 0, wrong, 1);
            dueThrownSide(x, 0, 0, wrong);
            dueThrownSide(x, wrong, wrong, wrong);
        }
        x.role(0, NONE);
        dueThrownSide(x, 0, 0, 0);
    }

    @Sentence(of = "Promise 10: weight", says = "BITS of an end of the WEIGHT of a BOX. 0: UNKNOWN, OUTSIDE.")
    static void weightOfNoSuchThing() {
        BoxIntegrals x = drawn(1.0, 2.0);
        due("no RUN", x.weight(0, 0), 0L);
        x.role(1, alwaysOpen(x));
        x.begin();
        x.run(1);
        dueWeight("the last BOX", x, 1, down(0.5, 2), up(0.5, 2));
        due("no such BOX", x.weight(2, 0), 0L);
        due("no such end", x.weight(0, 2), 0L);
        for (int wrong : FAR_OFF) {
            due("BOX " + wrong, x.weight(wrong, 1), 0L);
            due("end " + wrong, x.weight(0, wrong), 0L);
            due("both " + wrong, x.weight(wrong, wrong), 0L);
        }
        x.begin();
        due("a BOX of the RUN before", x.weight(1, 1), 0L);
        x.role(1, NONE);
        due("ended", x.weight(0, 1), 0L);
    }

    @Sentence(of = "Promise 11: enclosed", says = "BITS of an end of THE ENCLOSURE of a NODE over a BOX. 0: UNKNOWN, OUTSIDE.")
    static void enclosureOfNoSuchThing() {
        BoxIntegrals x = drawn(1.0, 2.0);
        due("no RUN", x.enclosed(0, 0, 0), 0L);
        x.role(1, alwaysOpen(x));
        x.begin();
        x.run(1);
        dueNumber("the last BOX", x.enclosed(1, 0, 0), 1.5);
        dueNumber("the last BOX", x.enclosed(1, 0, 1), 2.0);
        dueNumber("the last NODE", x.enclosed(0, 2, 1), TINY);
        due("no such BOX", x.enclosed(2, 0, 0), 0L);
        due("no such NODE", x.enclosed(0, 3, 0), 0L);
        due("no such end", x.enclosed(0, 0, 2), 0L);
        for (int wrong : FAR_OFF) {
            due("BOX " + wrong, x.enclosed(wrong, 0, 1), 0L);
            due("NODE " + wrong, x.enclosed(0, wrong, 1), 0L);
            due("end " + wrong, x.enclosed(0, 0, wrong), 0L);
        }
        x.role(1, NONE);
        due("ended", x.enclosed(0, 0, 1), 0L);
    }

    @Sentence(of = "Promise 12: value", says = "BITS of the VALUE of a NODE at a POINT (BITS x, y, z; of DRAWS that there are not it is not looked at).")
    static void valueAtAPoint() {
        BoxIntegrals one = drawn(0.0, 1.0);
        dueNumber("y, z are not looked at", one.value(0, b(0.5), -1L, -1L), 0.5);
        int second = number(one, 2.0);
        dueNumber("nor x by a number", one.value(second, -1L, -1L, -1L), 2.0);
        BoxIntegrals none = new BoxIntegrals();
        dueNumber("without DRAWS", none.value(number(none, 3.0), -1L, b(INF), 1L), 3.0);
        BoxIntegrals three = drawn(0.0, 1.0, 0.0, 1.0, 0.0, 1.0);
        int sum = of(three, 2, of(three, 2, 0, 1), 2);
        dueNumber("x + y + z", three.value(sum, b(1.0), b(10.0), b(100.0)), 111.0);
        three.begin();
        dueNumber("the same in a RUN", three.value(sum, b(1.0), b(10.0), b(100.0)), 111.0);
    }

    @Sentence(of = "Promise 12: value", says = "0: UNKNOWN.")
    static void valueOfNoNode() {
        BoxIntegrals x = drawn(1.0, 2.0);
        dueNumber("the last NODE", x.value(0, b(5.0), 0L, 0L), 5.0);
        due("the next", x.value(1, b(5.0), b(5.0), b(5.0)), 0L);
        for (int wrong : FAR_OFF) {
            due("NODE " + wrong, x.value(wrong, b(5.0), b(5.0), b(5.0)), 0L);
        }
        x.clear();
        due("a NODE that is gone", x.value(0, b(5.0), 0L, 0L), 0L);
    }

    @Sentence(of = "Promise 13: within", says = "2: the POINT is in the BOX (each number from lo to hi),")
    static void withinFromLoToHi() {
        BoxIntegrals x = drawn(0.0, 1.0, 2.0, 3.0, -5.0, -4.0);
        x.begin();
        due("all at lo", x.within(0, 0, b(0.0), b(2.0), b(-5.0)), 2);
        due("all at hi", x.within(0, 0, b(1.0), b(3.0), b(-4.0)), 2);
        due("-0.0 is 0.0", x.within(0, 0, b(-0.0), b(2.5), b(-4.5)), 2);
        BoxIntegrals minus = drawn(-0.0, 1.0);
        minus.begin();
        due("0.0 is -0.0", minus.within(0, 0, b(0.0), 0L, 0L), 2);
        BoxIntegrals below = drawn(-1.0, -0.0);
        below.begin();
        due("0.0 is -0.0", below.within(0, 0, b(0.0), 0L, 0L), 2);
        due("of DRAWS that there are not", below.within(0, 0, b(-1.0), -1L, -1L), 2);
    }

    @Sentence(of = "Promise 13: within", says = "and the NODE's VALUE is from the low to the high end of its ENCLOSURE,")
    static void withinTheEnclosure() {
        BoxIntegrals x = drawn(1.0, 2.0);
        int two = number(x, 2.0);
        int cut = of(x, 11, 0);
        x.begin();
        due("at both ends", x.within(0, two, b(1.5), 0L, 0L), 2);
        due("at the low end", x.within(0, cut, b(1.0), 0L, 0L), 2);
        due("at the high end", x.within(0, cut, b(2.0), 0L, 0L), 2);
        BoxIntegrals zero = drawn(-2.0, 0.0);
        int size = of(zero, 8, 0);
        zero.begin();
        dueNumber("the low end", zero.enclosed(0, size, 0), -0.0);
        due("0.0 is from -0.0 on", zero.within(0, size, b(0.0), 0L, 0L), 2);
    }

    @Sentence(of = "Promise 13: within", says = "or no number;")
    static void withinByNoNumber() {
        BoxIntegrals x = drawn(1.0, 2.0);
        int none = number(x, NAN);
        int size = of(x, 8, none);
        int lesser = of(x, 6, none, 0);
        x.begin();
        due("over THE WHOLE LINE", x.within(0, none, b(1.5), 0L, 0L), 2);
        dueEnds("not over THE WHOLE LINE", x, size, 0.0, INF);
        due("not over THE WHOLE LINE", x.within(0, size, b(1.5), 0L, 0L), 2);
        dueEnds("up to hi", x, lesser, -INF, 2.0);
        due("up to hi", x.within(0, lesser, b(1.5), 0L, 0L), 2);
        due("but not in the BOX", x.within(0, none, b(2.5), 0L, 0L), 0);
    }

    @Sentence(of = "Promise 13: within", says = "1: it is in the BOX, but not so;")
    static void withinButNotSo() {
        BoxIntegrals x = drawn(-3.0, -1.0);
        int none = number(x, NAN);
        int high = of(x, 15, of(x, 6, none, 0));
        x.begin();
        dueEnds("the ends", x, high, -2147483648.0, -1.0);
        dueNumber("the VALUE lies above", x.value(high, b(-2.0), 0L, 0L), 0.0);
        due("above", x.within(0, high, b(-2.0), 0L, 0L), 1);
        due("not in the BOX", x.within(0, high, b(0.0), 0L, 0L), 0);
        BoxIntegrals y = drawn(1.0, 3.0);
        int low = of(y, 16, of(y, 7, number(y, NAN), 0));
        y.begin();
        dueEnds("the ends", y, low, 1.0, 0x1p63);
        due("below", y.within(0, low, b(2.0), 0L, 0L), 1);
    }

    @Sentence(of = "Promise 13: within", says = "0: it is not in it.")
    static void notWithin() {
        BoxIntegrals x = drawn(0.0, 1.0, 2.0, 3.0, -5.0, -4.0);
        x.begin();
        due("x below", x.within(0, 0, b(-TINY), b(2.5), b(-4.5)), 0);
        due("x above", x.within(0, 0, b(1.0 + ULP), b(2.5), b(-4.5)), 0);
        due("y below", x.within(0, 0, b(0.5), b(Math.nextDown(2.0)), b(-4.5)), 0);
        due("y above", x.within(0, 0, b(0.5), b(Math.nextUp(3.0)), b(-4.5)), 0);
        due("z below", x.within(0, 0, b(0.5), b(2.5), b(Math.nextDown(-5.0))), 0);
        due("z above", x.within(0, 0, b(0.5), b(2.5), b(Math.nextUp(-4.0))), 0);
        due("infinite", x.within(0, 0, b(INF), b(2.5), b(-4.5)), 0);
        due("infinite", x.within(0, 0, b(-INF), b(2.5), b(-4.5)), 0);
        for (long bits : NO_NUMBERS) {
            due("no number", x.within(0, 0, bits, b(2.5), b(-4.5)), 0);
            due("no number", x.within(0, 0, b(0.5), b(2.5), bits), 0);
        }
    }

    @Sentence(of = "Promise 13: within", says = "UNKNOWN.")
    static void withinNoSuchThing() {
        BoxIntegrals x = drawn(1.0, 2.0);
        due("no RUN", x.within(0, 0, b(1.5), 0L, 0L), UNKNOWN);
        x.begin();
        due("the next BOX", x.within(1, 0, b(1.5), 0L, 0L), UNKNOWN);
        due("the next NODE", x.within(0, 1, b(1.5), 0L, 0L), UNKNOWN);
        due("the next NODE, a POINT that is not in it", x.within(0, 1, b(2.5), 0L, 0L), UNKNOWN);
        for (int wrong : FAR_OFF) {
            due("BOX " + wrong, x.within(wrong, 0, b(1.5), 0L, 0L), UNKNOWN);
            due("NODE " + wrong, x.within(0, wrong, b(1.5), 0L, 0L), UNKNOWN);
        }
    }

    @Sentence(of = "Promise 14: where", says = "The first BOX in which a POINT is;")
    static void whereFirst() {
        BoxIntegrals x = open(0.0, 4.0);
        x.run(3);
        due("lo of BOX 0", x.where(b(-0.0), -1L, -1L), 0);
        due("hi of BOX 0, lo of BOX 2", x.where(b(1.0), -1L, -1L), 0);
        due("just above", x.where(b(1.0 + ULP), -1L, -1L), 2);
        due("hi of BOX 2, lo of BOX 1", x.where(b(2.0), -1L, -1L), 1);
        due("just below", x.where(b(Math.nextDown(2.0)), -1L, -1L), 2);
        due("hi of BOX 1, lo of BOX 3", x.where(b(3.0), -1L, -1L), 1);
        due("hi of BOX 3", x.where(b(4.0), -1L, -1L), 3);
    }

    @Sentence(of = "Promise 14: where", says = "NONE (also without a RUN).")
    static void whereNone() {
        BoxIntegrals x = drawn(0.0, 4.0, 0.0, 1.0);
        due("without a RUN", x.where(b(1.0), b(0.5), 0L), NONE);
        due("a new object", new BoxIntegrals().where(0L, 0L, 0L), NONE);
        x.begin();
        due("with one", x.where(b(1.0), b(0.5), 0L), 0);
        due("above", x.where(b(Math.nextUp(4.0)), b(0.5), 0L), NONE);
        due("below", x.where(b(-TINY), b(0.5), 0L), NONE);
        due("by y", x.where(b(1.0), b(1.0 + ULP), 0L), NONE);
        for (long bits : NO_NUMBERS) {
            due("no number", x.where(bits, b(0.5), 0L), NONE);
            due("no number", x.where(b(1.0), bits, 0L), NONE);
        }
        x.role(0, NONE);
        due("ended", x.where(b(1.0), b(0.5), 0L), NONE);
    }

    @Sentence(of = "Promise 15: mass", says = "BITS of an end of THE MASS of a KIND (0 .. 3). 0: OUTSIDE, no RUN.")
    static void massOfNoSuchThing() {
        BoxIntegrals x = drawn(1.0, 2.0);
        due("no RUN", x.mass(YES, 0), 0L);
        due("no RUN", x.mass(YES, 1), 0L);
        x.begin();
        dueNumber("low end of YES", x.mass(YES, 0), down(1.0, 3));
        dueNumber("high end of YES", x.mass(YES, 1), up(1.0, 3));
        x.role(1, alwaysOpen(x));
        x.begin();
        dueNumber("KIND 3", x.mass(3, 1), up(1.0, 3));
        due("KIND 4", x.mass(4, 1), 0L);
        due("end 2", x.mass(3, 2), 0L);
        for (int wrong : FAR_OFF) {
            due("KIND " + wrong, x.mass(wrong, 1), 0L);
            due("end " + wrong, x.mass(3, wrong), 0L);
        }
        x.role(0, number(x, 0.0));
        due("ended", x.mass(3, 1), 0L);
        x.begin();
        dueNumber("KIND 0", x.mass(0, 1), up(1.0, 3));
    }

    @Sentence(of = "Promise 16: odds", says = "BITS of an end of THE ODDS. 0: OUTSIDE, no RUN.")
    static void oddsOfNoSuchThing() {
        BoxIntegrals x = drawn(1.0, 2.0);
        due("no RUN", x.odds(0), 0L);
        due("no RUN", x.odds(1), 0L);
        x.begin();
        dueNumber("high end", x.odds(1), 1.0);
        holds("low end", d(x.odds(0)) > 0.9 && d(x.odds(0)) < 1.0);
        due("end 2", x.odds(2), 0L);
        for (int wrong : FAR_OFF) {
            due("end " + wrong, x.odds(wrong), 0L);
        }
        x.role(0, NONE);
        due("ended", x.odds(1), 0L);
    }

    @Sentence(of = "Promise 17: share", says = "How many BOXES there are of a KIND by how many OPEN ones, cut.")
    static void shareIsCut() {
        BoxIntegrals x = drawn(0.0, 1.0);
        x.role(1, of(x, 3, 0, number(x, 0.3)));
        x.begin();
        due("none by one", x.share(YES), 0);
        due("none by one", x.share(OUT), 0);
        due("OPEN by OPEN", x.share(OPEN), 1);
        x.run(3);
        // 0.5 to 1 YES; 0 to 0.25 NO; 0.25 to 0.375 OPEN; 0.375 to 0.5 YES
        due("two by one", x.share(YES), 2);
        due("one by one", x.share(NO), 1);
        due("OPEN by OPEN", x.share(OPEN), 1);
        BoxIntegrals y = drawn(-1.0, 2.0, 0.0, 1.0);
        y.role(1, 0);
        y.begin();
        y.run(2);
        // 0.5 to 2 YES; -1 to -0.25 NO; -0.25 to 0.5 OPEN, then in two by y
        due("one by one", y.share(YES), 1);
        y.run(1);
        due("two OPEN ones by two", y.share(OPEN), 1);
        due("one by two", y.share(YES), 0);
    }

    @Sentence(of = "Promise 17: share", says = "OUTSIDE; STATE.")
    static void shareOutsideAndState() {
        BoxIntegrals x = drawn(0.0, 1.0);
        for (int kind = 0; kind < 4; kind++) {
            due("no RUN, KIND " + kind, x.share(kind), STATE);
        }
        x.begin();
        due("ahead of the throw", x.share(4), OUTSIDE);
        due("ahead of the throw", x.share(-1), OUTSIDE);
        x.role(1, alwaysOpen(x));
        x.begin();
        due("KIND 4", x.share(4), OUTSIDE);
        for (int wrong : FAR_OFF) {
            due("KIND " + wrong, x.share(wrong), OUTSIDE);
        }
        x.role(1, NONE);
        due("ended", x.share(OPEN), STATE);
    }

    @Sentence(of = "Promise 17: share", says = "ArithmeticException: there is no OPEN one.")
    static void shareByNoOpenOne() {
        BoxIntegrals x = drawn(0.0, 1.0);
        x.begin();
        for (int kind = 0; kind < 4; kind++) {
            dueThrownShare(x, kind);
        }
        due("the RUN stays", x.boxes(), 1);
        x.role(1, of(x, 3, 0, number(x, 0.5)));
        x.begin();
        due("one OPEN", x.share(OPEN), 1);
    }

    @Sentence(of = "Promise 18: count", says = "0 DRAWS, 1 NODES, 2 BOXES,")
    static void countOfThings() {
        BoxIntegrals x = open(0.0, 1.0, 0.0, 1.0, 0.0, 1.0);
        x.run(99);
        due("DRAWS", x.count(0), 3);
        due("NODES", x.count(1), 5);
        due("BOXES", x.count(2), 100);
        fillWithNodes(x);
        due("NODES, the most", x.count(1), 32);
    }

    @Sentence(of = "Promise 18: count", says = "3 STEPS of the RUN (0 without one),")
    static void countOfSteps() {
        BoxIntegrals x = drawn(0.0, 1.0);
        due("without a RUN", x.count(3), 0);
        x.role(1, alwaysOpen(x));
        x.begin();
        due("none yet", x.count(3), 0);
        x.run(3);
        x.run(0);
        x.run(4);
        due("of two runs", x.count(3), 7);
        x.run(99);
        due("the most", x.count(3), 99);
        x.begin();
        due("anew", x.count(3), 0);
        x.run(2);
        x.role(1, NONE);
        due("ended", x.count(3), 0);
    }

    @Sentence(of = "Promise 18: count", says = "4 OPEN BOXES that are TIGHT.")
    static void countOfTightOnes() {
        BoxIntegrals x = drawn(1.0, 1.0 + 2.0 * ULP);
        due("without a RUN", x.count(4), 0);
        x.role(1, alwaysOpen(x));
        x.begin();
        due("not TIGHT", x.count(4), 0);
        x.run(1);
        due("both are TIGHT", x.count(4), 2);
        x.role(1, NONE);
        due("ended", x.count(4), 0);
        BoxIntegrals yes = drawn(1.0, 1.0 + ULP);
        yes.begin();
        due("TIGHT, but YES", yes.count(4), 0);
        yes.role(0, number(yes, 0.0));
        yes.begin();
        due("TIGHT, but OUT", yes.count(4), 0);
    }

    @Sentence(of = "Promise 18: count", says = "OUTSIDE.")
    static void countOutside() {
        BoxIntegrals x = open(0.0, 1.0);
        due("count(5)", x.count(5), OUTSIDE);
        for (int wrong : FAR_OFF) {
            due("count(" + wrong + ")", x.count(wrong), OUTSIDE);
        }
    }

    @Sentence(of = "Promise 19: clear", says = "All is gone:")
    static void clearedOfAll() {
        BoxIntegrals x = busy();
        x.clear();
        for (int what = 0; what < 5; what++) {
            due("count(" + what + ")", x.count(what), 0);
        }
        due("no DRAW", x.begin(), STATE);
        due("no RUN", x.run(0), STATE);
        due("no BOX", x.where(b(1.0), b(1.0), b(1.0)), NONE);
        due("no NODE", x.role(0, 0), UNKNOWN);
        due("no NODE", x.value(0, 0L, 0L, 0L), 0L);
        due("no DENSITIES", x.role(2, NONE), OUTSIDE);
        due("no CONDITION", x.role(0, NONE), NONE);
        due("no QUESTION", x.role(1, NONE), NONE);
        due("DRAWS from 0 on", x.draw(b(0.0), b(1.0)), 0);
        due("NODES from 0 on", x.node(0, 0, 0, 0L), 0);
        due("no DENSITY", x.role(2, NONE), NONE);
        x.begin();
        dueSide("the new SPAN", x, 0, 0, 0.0, 1.0);
        due("no roles", x.kind(0), YES);
        dueWeight("no DENSITY", x, 0, down(1.0, 2), up(1.0, 2));
    }

    @Sentence(of = "Promise 19: clear", says = "how many NODES there were.")
    static void clearTellsHowManyNodes() {
        BoxIntegrals x = new BoxIntegrals();
        due("none", x.clear(), 0);
        x.draw(b(0.0), b(1.0));
        due("none, but a DRAW", x.clear(), 0);
        due("the DRAW is gone", x.count(0), 0);
        number(x, 1.0);
        due("one", x.clear(), 1);
        due("32", busy().clear(), 32);
        due("none again", x.clear(), 0);
    }
}
