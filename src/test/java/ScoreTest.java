/** Promises 13 to 19: prefer, start, step, score, hub, top, change. */
public final class ScoreTest {
    private static final Packing PLAIN = new Packing(0, 0, 0, 1);
    private static final long ALL = 1000000000000L;
    private static final int MIN = Integer.MIN_VALUE;
    private static final int MAX = Integer.MAX_VALUE;

    public static void main(String[] args) {
        Sentences.test(ScoreTest.class);
    }

    private static void scores(Check check, String name, ArcTape x, long... due) {
        for (int v = 0; v < due.length; v++) {
            check.due(name + ": score(" + v + ")", x.score(v), due[v]);
        }
    }

    private static ArcTape packed(int n, int[]... rows) {
        return Tapes.packed(PLAIN, n, rows);
    }

    /** 0 links to 1 and 2, 1 to 2, 2 to none. */
    private static ArcTape triangle() {
        return packed(3, Tapes.row(0, 1, 2), Tapes.row(1, 2));
    }

    private static int[] noNodes(int n) {
        return new int[] {-1, n, n + 1, 32, -32, MIN, MAX};
    }

    @Sentence("The weight of node v becomes w: true")
    static void prefer(Check check) {
        for (int n = 2; n <= 12; n++) {
            ArcTape x = new ArcTape(n);
            check.due(n + " nodes: prefer(n - 1, 100)", x.prefer(n - 1, 100), true);
            check.due(n + " nodes: prefer(0, 0)", x.prefer(0, 0), true);
            x.start(0, 0);
            x.step(1);
            check.due(n + " nodes: 0 of all", x.score(0), 0);
            check.due(n + " nodes: 100 of all", x.score(n - 1), 100 * ALL / (98 + n));
        }
        ArcTape y = new ArcTape(2);
        check.due("prefer(0, 1), as it is", y.prefer(0, 1), true);
        check.due("prefer(0, 3)", y.prefer(0, 3), true);
        check.due("prefer(0, 3) again", y.prefer(0, 3), true);
        y.start(0, 0);
        y.step(1);
        scores(check, "3 and 1", y, 750000000000L, 250000000000L);
    }

    @Sentence("refused with false if v is not a node")
    static void preferNoNode(Check check) {
        for (int n = 1; n <= 12; n++) {
            ArcTape x = new ArcTape(n);
            for (int wrong : noNodes(n)) {
                check.due(n + " nodes: prefer(" + wrong + ", 1)", x.prefer(wrong, 1), false);
                check.due(n + " nodes: prefer(" + wrong + ", 0)", x.prefer(wrong, 0), false);
            }
        }
    }

    @Sentence("w is not 0 .. 100")
    static void preferNoWeight(Check check) {
        ArcTape x = new ArcTape(3);
        for (int wrong : new int[] {-1, -2, 101, 102, 256, MIN, MAX}) {
            check.due("prefer(0, " + wrong + ")", x.prefer(0, wrong), false);
            check.due("prefer(2, " + wrong + ")", x.prefer(2, wrong), false);
        }
        x.start(0, 0);
        x.step(1);
        scores(check, "all weights are 1", x, ALL / 3, ALL / 3, ALL / 3);
        check.due("prefer(0, 100)", x.prefer(0, 100), true);
        check.due("prefer(0, 0)", x.prefer(0, 0), true);
    }

    @Sentence("or all weights would be 0 then.")
    static void preferNothing(Check check) {
        ArcTape one = new ArcTape(1);
        check.due("one node: prefer(0, 0)", one.prefer(0, 0), false);
        check.due("one node: prefer(0, 1)", one.prefer(0, 1), true);
        for (int last = 0; last < 3; last++) {
            ArcTape x = new ArcTape(3);
            for (int v = 0; v < 3; v++) {
                if (v != last) {
                    check.due("prefer(" + v + ", 0)", x.prefer(v, 0), true);
                    check.due("prefer(" + v + ", 0) again", x.prefer(v, 0), true);
                }
            }
            check.due("prefer(" + last + ", 0), the last", x.prefer(last, 0), false);
            x.start(0, 0);
            x.step(1);
            check.due("its weight stays", x.score(last), ALL);
            check.due("another gets a weight", x.prefer((last + 1) % 3, 1), true);
            check.due("prefer(" + last + ", 0) now", x.prefer(last, 0), true);
        }
    }

    @Sentence("Scores stay until the next step.")
    static void preferLeavesScores(Check check) {
        for (int kind = 0; kind <= 2; kind++) {
            ArcTape x = triangle();
            x.start(kind, 850);
            x.step(2);
            String before = State.scores(x, 3);
            x.prefer(0, 50);
            x.prefer(1, 0);
            check.due("kind " + kind, State.scores(x, 3), before);
        }
        ArcTape y = new ArcTape(2);
        y.start(0, 0);
        y.step(1);
        y.prefer(0, 3);
        scores(check, "before the step", y, ALL / 2, ALL / 2);
        y.step(1);
        scores(check, "after the step", y, 750000000000L, 250000000000L);
    }

    @Sentence("Starts with a kind 0 .. 2 and, for kind 0, a damping 0 .. 1000: true")
    static void start(Check check) {
        ArcTape x = triangle();
        for (int kind = 0; kind <= 2; kind++) {
            for (int damping : new int[] {0, 1, 500, 999, 1000}) {
                check.due("start(" + kind + ", " + damping + ")", x.start(kind, damping), true);
                check.due("change()", x.change(), 0);
                check.due("score(0)", x.score(0), kind == 1 ? 1000000 : ALL / 3);
                check.due("hub(0)", x.hub(0), kind == 1 ? 1000000 : 0);
                x.step(3);
            }
        }
    }

    @Sentence("Starts with a kind 0 .. 2 and, for kind 0, a damping 0 .. 1000")
    static void dampingOfOtherKinds(Check check) {
        for (int kind = 1; kind <= 2; kind++) {
            ArcTape x = triangle();
            ArcTape y = triangle();
            x.start(kind, 0);
            y.start(kind, 1000);
            x.step(3);
            y.step(3);
            check.due("kind " + kind + " has no damping", State.scores(x, 3), State.scores(y, 3));
        }
    }

    @Sentence("refused with false if either is out of its range (the damping also when the kind is not 0).")
    static void startOutOfRange(Check check) {
        int[][] wrong = {{-1, 0}, {3, 0}, {-1, 850}, {3, 1000}, {256, 0}, {0, -1}, {0, 1001}, {1, -1}, {1, 1001}, {2, -1}, {2, 1001},
            {MIN, 0}, {MAX, 0}, {0, MIN}, {0, MAX}, {1, MIN}, {1, MAX}, {2, MIN}, {2, MAX}, {3, 1001}, {-1, -1}};
        for (int kind = 0; kind <= 2; kind++) {
            ArcTape x = triangle();
            ArcTape without = triangle();
            x.start(kind, 321);
            without.start(kind, 321);
            x.step(1);
            without.step(1);
            for (int[] w : wrong) {
                check.due("start(" + w[0] + ", " + w[1] + ")", x.start(w[0], w[1]), false);
            }
            check.due("kind " + kind + ": scores stay", State.scores(x, 3), State.scores(without, 3));
            x.step(1);
            without.step(1);
            check.due("kind " + kind + ": kind and damping stay", State.scores(x, 3), State.scores(without, 3));
        }
    }

    @Sentence("Weights stay.")
    static void startLeavesWeights(Check check) {
        for (int kind = 0; kind <= 2; kind++) {
            ArcTape x = new ArcTape(2);
            x.prefer(0, 3);
            x.start(kind, 0);
            x.start(0, 0);
            x.step(1);
            scores(check, "after a start of kind " + kind, x, 750000000000L, 250000000000L);
        }
    }

    @Sentence("Makes that many steps (0 .. 20)")
    static void step(Check check) {
        for (int kind = 0; kind <= 2; kind++) {
            for (int times = 0; times <= 20; times++) {
                ArcTape once = triangle();
                ArcTape together = triangle();
                once.start(kind, 850);
                together.start(kind, 850);
                int made = 0;
                while (made < times && (made == 0 || once.change() != 0)) {
                    check.due("step(1)", once.step(1), 1);
                    made++;
                }
                check.due("kind " + kind + ": step(" + times + ")", together.step(times), made);
                check.due("kind " + kind + ": step(" + times + ")", State.scores(together, 3), State.scores(once, 3));
            }
        }
        check.due("kind 0: all 20", triangle().step(20), 20);
    }

    @Sentence("or fewer: it ends after a step after which change() is 0.")
    static void stepToTheEnd(Check check) {
        int[] due = {0, 1, 2, 2, 2};
        for (int times = 0; times < due.length; times++) {
            ArcTape x = new ArcTape(3);
            // Without links all scores become 0 in the first step, and stay in the second.
            x.start(1, 0);
            check.due("step(" + times + ")", x.step(times), due[times]);
        }
        ArcTape x = new ArcTape(3);
        x.start(1, 0);
        check.due("step(20)", x.step(20), 2);
        check.due("change()", x.change(), 0);
        check.due("step(20): one is made, and moves nothing", x.step(20), 1);
        check.due("step(1)", x.step(1), 1);
        check.due("step(0)", x.step(0), 0);
        // Before the first step change() is 0 as well, but it ends after a step only.
        ArcTape y = triangle();
        check.due("change() before", y.change(), 0);
        check.due("step(3)", y.step(3), 3);
        // Hubs move here, scores don't: two nodes that link to each other.
        ArcTape z = packed(2, Tapes.row(0, 1), Tapes.row(1, 0));
        z.start(2, 0);
        check.due("hubs do not count", z.step(3), 1);
        check.due("hub(0)", z.hub(0), ALL / 2);
        // What had come to rest moves again when there are other weights.
        ArcTape w = new ArcTape(2);
        w.start(0, 0);
        check.due("at rest", w.step(20), 1);
        w.prefer(0, 3);
        check.due("one moves, one does not", w.step(20), 2);
        scores(check, "weights 3 and 1", w, 750000000000L, 250000000000L);
    }

    @Sentence("Answers how many were made")
    static void howManySteps(Check check) {
        for (int times = 0; times <= 20; times++) {
            check.due("none comes to rest: step(" + times + ")", triangle().step(times), times);
            // 10^12 / 3 is the score of each at once.
            ArcTape x = new ArcTape(3);
            x.start(0, 0);
            check.due("at rest: step(" + times + ")", x.step(times), Math.min(1, times));
        }
    }

    @Sentence("refused with -1 if times is not 0 .. 20.")
    static void stepOutOfRange(Check check) {
        ArcTape x = triangle();
        x.step(1);
        String before = State.scores(x, 3);
        for (int wrong : new int[] {-1, -2, 21, 22, 256, MIN, MAX}) {
            check.due("step(" + wrong + ")", x.step(wrong), -1);
        }
        check.due("scores stay", State.scores(x, 3), before);
        check.due("step(0)", x.step(0), 0);
        check.due("scores stay", State.scores(x, 3), before);
        check.due("step(20)", x.step(20), 20);
    }

    @Sentence("The score of node v; -1 if v is not a node.")
    static void score(Check check) {
        for (int n = 1; n <= 12; n++) {
            ArcTape x = new ArcTape(n);
            for (int v = 0; v < n; v++) {
                check.due(n + " nodes: score(" + v + ")", x.score(v), ALL / n);
            }
            for (int wrong : noNodes(n)) {
                check.due(n + " nodes: score(" + wrong + ")", x.score(wrong), -1);
            }
        }
    }

    @Sentence("The hub of node v; -1 if v is not a node.")
    static void hub(Check check) {
        for (int n = 1; n <= 12; n++) {
            ArcTape x = new ArcTape(n);
            for (int v = 0; v < n; v++) {
                check.due(n + " nodes: hub(" + v + ")", x.hub(v), 0);
            }
            x.start(1, 0);
            for (int v = 0; v < n; v++) {
                check.due(n + " nodes, kind 1: hub(" + v + ")", x.hub(v), 1000000);
            }
            for (int wrong : noNodes(n)) {
                check.due(n + " nodes: hub(" + wrong + ")", x.hub(wrong), -1);
            }
        }
    }

    private static void order(Check check, String name, ArcTape x, int... due) {
        for (int k = 0; k < due.length; k++) {
            check.due(name + ": top(" + k + ")", x.top(k), due[k]);
        }
    }

    @Sentence("The node that is the k-th (from 0) when the nodes are put in order by their scores, greater ones first")
    static void top(Check check) {
        ArcTape x = new ArcTape(5);
        int[] weights = {3, 9, 0, 100, 7};
        for (int v = 0; v < 5; v++) {
            x.prefer(v, weights[v]);
        }
        x.start(0, 0);
        x.step(1);
        order(check, "all differ", x, 3, 1, 4, 0, 2);
        ArcTape y = triangle();
        y.start(1, 0);
        y.step(1);
        // Scores 0, 500000 and 1000000, hubs 1000000, 666666 and 0.
        order(check, "by scores, not by hubs", y, 2, 1, 0);
    }

    @Sentence("of equal ones the lesser node first")
    static void topOfEquals(Check check) {
        ArcTape x = new ArcTape(12);
        order(check, "all are equal", x, 0, 1, 2, 3, 4, 5, 6, 7, 8, 9, 10, 11);
        x.prefer(4, 0);
        x.prefer(7, 2);
        x.prefer(2, 0);
        x.prefer(9, 2);
        x.start(0, 0);
        x.step(1);
        order(check, "three heights", x, 7, 9, 0, 1, 3, 5, 6, 8, 10, 11, 2, 4);
        ArcTape zero = new ArcTape(3);
        zero.start(1, 0);
        zero.step(1);
        order(check, "all are 0", zero, 0, 1, 2);
    }

    @Sentence("-1 if k is not 0 .. n - 1.")
    static void topOutOfRange(Check check) {
        for (int n = 1; n <= 12; n++) {
            ArcTape x = new ArcTape(n);
            check.due(n + " nodes: top(0)", x.top(0), 0);
            check.due(n + " nodes: top(n - 1)", x.top(n - 1), n - 1);
            for (int wrong : noNodes(n)) {
                check.due(n + " nodes: top(" + wrong + ")", x.top(wrong), -1);
            }
        }
    }

    @Sentence("The sum over all nodes of how far the latest step moved the score (new less old, without sign)")
    static void change(Check check) {
        ArcTape x = packed(2, Tapes.row(0, 1));
        x.step(1);
        // 0 goes down and 1 up by as much: 212500000000 each.
        check.due("up and down", x.change(), 425000000000L);
        x.start(0, 1000);
        x.step(1);
        check.due("the first of two", x.change(), 500000000000L);
        x.step(1);
        // 250 and 750 become 375 and 625.
        check.due("the second alone", x.change(), 250000000000L);
        x.start(0, 1000);
        x.step(2);
        check.due("the latest of two made at once", x.change(), 250000000000L);
    }

    @Sentence("0 if no step was made since the latest start.")
    static void changeWithoutStep(Check check) {
        check.due("new", new ArcTape(4).change(), 0);
        ArcTape x = packed(2, Tapes.row(0, 1));
        x.step(0);
        check.due("step(0)", x.change(), 0);
        x.step(21);
        check.due("a refused step", x.change(), 0);
        for (int kind = 0; kind <= 2; kind++) {
            x.step(1);
            check.due("a step", x.change() != 0, true);
            x.start(kind, 850);
            check.due("start(" + kind + ", 850)", x.change(), 0);
        }
    }

    @Sentence("the latest step")
    static void changeStays(Check check) {
        ArcTape x = packed(2, Tapes.row(0, 1));
        x.step(1);
        x.step(0);
        check.due("step(0)", x.change(), 425000000000L);
        x.step(-1);
        x.step(21);
        check.due("a refused step", x.change(), 425000000000L);
        x.start(3, 0);
        x.start(0, 1001);
        check.due("a refused start", x.change(), 425000000000L);
        x.flip(0);
        x.prefer(0, 5);
        x.add(1, 1);
        x.pack(0, 0, 0, 2);
        check.due("flip, prefer, add and pack", x.change(), 425000000000L);
    }
}
