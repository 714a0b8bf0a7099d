/** Promises 13 to 19: prefer, start, step, score, hub, top, change; every expected number is worked out by hand. */
public final class ScoreTest {
    private static final Check CHECK = new Check();
    private static final int[] NO_NODES = {-1, 3, Integer.MIN_VALUE, Integer.MAX_VALUE};

    public static void main(String[] args) {
        kind0();
        kind0Weighted();
        kind1();
        kind1WithoutLinks();
        kind2();
        prefer();
        start();
        step();
        top();
        change();
        listsAtTheTimeOfTheCall();
        wrongNodes();
        CHECK.finish();
    }

    private static void scores(String name, ArcTape x, long... due) {
        for (int v = 0; v < due.length; v++) {
            CHECK.due(name + ": score(" + v + ")", x.score(v), due[v]);
        }
    }

    private static void hubs(String name, ArcTape x, long... due) {
        for (int v = 0; v < due.length; v++) {
            CHECK.due(name + ": hub(" + v + ")", x.hub(v), due[v]);
        }
    }

    private static ArcTape packed(int n, int[]... rows) {
        ArcTape x = Tapes.graph(n, rows);
        x.pack(0, 0, 0, 1);
        return x;
    }

    /** 0 links to 1 and 2, 1 to 2, 2 to none. */
    private static ArcTape triangle() {
        return packed(3, Tapes.row(0, 1, 2), Tapes.row(1, 2));
    }

    private static void kind0() {
        ArcTape x = packed(2, Tapes.row(0, 1));
        scores("at first", x, 500000000000L, 500000000000L);
        CHECK.due("step(1)", x.step(1), 1);
        // 75 * 10^9 each; 850 * 25 * 10^10 / 1000, and the same of 75 * 10^10.
        scores("damping 850", x, 287500000000L, 712500000000L);
        hubs("kind 0", x, 0, 0);
        CHECK.due("change()", x.change(), 425000000000L);
        x.start(0, 0);
        x.prefer(1, 3);
        x.step(1);
        scores("damping 0", x, 250000000000L, 750000000000L);
        x.prefer(1, 1);
        x.start(0, 1000);
        x.step(1);
        scores("damping 1000", x, 250000000000L, 750000000000L);
    }

    private static void kind0Weighted() {
        ArcTape x = packed(2, Tapes.row(0, 1));
        x.prefer(0, 2);
        x.step(1);
        // 100 * 10^9 + 850 * 333333333333 / 1000; 50 * 10^9 + 850 * (500000000000 + 166666666666) / 1000.
        scores("weights 2 and 1", x, 383333333333L, 616666666666L);
        ArcTape y = triangle();
        y.start(0, 999);
        y.prefer(0, 0);
        y.prefer(2, 100);
        y.step(1);
        // Z is 333333333333, W 101: with weights 0, 1 and 100 it is 0, 3300330033 and 330033003300.
        // 10^9 * weight / 101 is 0, 9900990 and 990099009; S is 0, 166666666666 and 499999999999.
        scores("weights 0, 1 and 100", y, 0, 9900990L + 999L * (166666666666L + 3300330033L) / 1000,
            990099009L + 999L * (499999999999L + 330033003300L) / 1000);
    }

    private static void kind1() {
        ArcTape x = triangle();
        CHECK.due("start(1, 0)", x.start(1, 0), true);
        scores("kind 1 at first", x, 1000000, 1000000, 1000000);
        hubs("kind 1 at first", x, 1000000, 1000000, 1000000);
        CHECK.due("step(1)", x.step(1), 1);
        scores("kind 1", x, 0, 500000, 1000000);
        hubs("kind 1", x, 1000000, 666666, 0);
        CHECK.due("change()", x.change(), 1500000);
        x.step(1);
        // 1000000 and 1666666: 1000000 * 1000000 / 1666666 = 600000 (and some); then 1600000 and 1000000.
        scores("kind 1, second", x, 0, 600000, 1000000);
        hubs("kind 1, second", x, 1000000, 625000, 0);
        CHECK.due("change(), second", x.change(), 100000);
    }

    private static void kind1WithoutLinks() {
        ArcTape x = new ArcTape(3);
        x.start(1, 1000);
        CHECK.due("no links: step(5)", x.step(5), 2);
        scores("no links", x, 0, 0, 0);
        hubs("no links", x, 0, 0, 0);
        CHECK.due("no links: change()", x.change(), 0);
    }

    private static void kind2() {
        ArcTape x = triangle();
        x.start(2, 7);
        scores("kind 2 at first", x, 333333333333L, 333333333333L, 333333333333L);
        hubs("kind 2 at first", x, 0, 0, 0);
        CHECK.due("step(1)", x.step(1), 1);
        hubs("kind 2", x, 499999999999L, 166666666666L, 0);
        scores("kind 2", x, 0, 249999999999L, 416666666665L);
        CHECK.due("change()", x.change(), 333333333333L + 83333333334L + 83333333332L);
    }

    private static void prefer() {
        ArcTape x = packed(2, Tapes.row(0, 1));
        CHECK.due("prefer(0, 101)", x.prefer(0, 101), false);
        CHECK.due("prefer(0, -1)", x.prefer(0, -1), false);
        CHECK.due("prefer(2, 1)", x.prefer(2, 1), false);
        CHECK.due("prefer(-1, 1)", x.prefer(-1, 1), false);
        CHECK.due("prefer(0, 0)", x.prefer(0, 0), true);
        CHECK.due("prefer(1, 0)", x.prefer(1, 0), false);
        scores("scores stay", x, 500000000000L, 500000000000L);
        x.start(0, 0);
        x.step(1);
        scores("refused changes nothing", x, 0, 1000000000000L);
        CHECK.due("prefer(0, 100)", x.prefer(0, 100), true);
        CHECK.due("prefer(1, 0) now", x.prefer(1, 0), true);
        CHECK.due("start", x.start(0, 0), true);
        x.step(1);
        scores("start leaves weights", x, 1000000000000L, 0);
        ArcTape y = new ArcTape(1);
        CHECK.due("the one node's weight", y.prefer(0, 0), false);
        CHECK.due("the same weight", y.prefer(0, 1), true);
    }

    private static void start() {
        ArcTape x = triangle();
        x.start(1, 5);
        x.step(1);
        int[][] wrong = {{-1, 0}, {3, 0}, {0, -1}, {0, 1001}, {1, -1}, {1, 1001}, {2, -1}, {2, 1001},
            {Integer.MIN_VALUE, 0}, {Integer.MAX_VALUE, 0}, {0, Integer.MIN_VALUE}, {0, Integer.MAX_VALUE}};
        for (int[] w : wrong) {
            CHECK.due("start(" + w[0] + ", " + w[1] + ")", x.start(w[0], w[1]), false);
        }
        scores("refused changes no score", x, 0, 500000, 1000000);
        CHECK.due("refused changes no change()", x.change(), 1500000);
        x.step(1);
        scores("refused changes no kind", x, 0, 600000, 1000000);
        CHECK.due("start(0, 1000)", x.start(0, 1000), true);
        CHECK.due("change() after start", x.change(), 0);
        scores("scores anew", x, 333333333333L, 333333333333L, 333333333333L);
        hubs("hubs anew", x, 0, 0, 0);
    }

    private static void step() {
        ArcTape x = triangle();
        CHECK.due("step(-1)", x.step(-1), -1);
        CHECK.due("step(21)", x.step(21), -1);
        CHECK.due("step(MIN)", x.step(Integer.MIN_VALUE), -1);
        CHECK.due("step(MAX)", x.step(Integer.MAX_VALUE), -1);
        CHECK.due("step(0)", x.step(0), 0);
        scores("no step made", x, 333333333333L, 333333333333L, 333333333333L);
        ArcTape once = triangle();
        ArcTape together = triangle();
        for (int i = 0; i < 7; i++) {
            CHECK.due("step(1)", once.step(1), 1);
        }
        CHECK.due("step(7)", together.step(7), 7);
        scores("seven steps", together, once.score(0), once.score(1), once.score(2));
        CHECK.due("change() of the last alone", together.change(), once.change());
        x.start(0, 0);
        // 10^12 / 3 is the score already.
        CHECK.due("a step that moves nothing is made", x.step(20), 1);
        CHECK.due("and again", x.step(20), 1);
        CHECK.due("step(20) to its end", triangle().step(20), 20);
    }

    private static void top() {
        ArcTape x = packed(4, Tapes.row(0, 2), Tapes.row(1, 2), Tapes.row(3, 2));
        int[] first = {0, 1, 2, 3};
        int[] then = {2, 0, 1, 3};
        for (int k = 0; k < 4; k++) {
            CHECK.due("equal scores: top(" + k + ")", x.top(k), first[k]);
        }
        x.step(1);
        for (int k = 0; k < 4; k++) {
            CHECK.due("2 is greater: top(" + k + ")", x.top(k), then[k]);
        }
        int[] wrong = {-1, 4, Integer.MIN_VALUE, Integer.MAX_VALUE};
        for (int k : wrong) {
            CHECK.due("top(" + k + ")", x.top(k), -1);
        }
    }

    private static void change() {
        ArcTape x = packed(2, Tapes.row(0, 1));
        CHECK.due("no step yet", x.change(), 0);
        x.step(1);
        CHECK.due("a step", x.change(), 425000000000L);
        x.step(0);
        CHECK.due("step(0) leaves it", x.change(), 425000000000L);
        x.step(21);
        CHECK.due("a refused step leaves it", x.change(), 425000000000L);
        x.flip(0);
        x.prefer(0, 5);
        x.pack(0, 0, 0, 2);
        CHECK.due("flip, prefer and pack leave it", x.change(), 425000000000L);
        x.start(2, 0);
        CHECK.due("start ends it", x.change(), 0);
        // Hubs move here, scores don't: two nodes that link to each other.
        ArcTape y = packed(2, Tapes.row(0, 1), Tapes.row(1, 0));
        y.start(2, 0);
        CHECK.due("hubs do not count", y.step(3), 1);
        hubs("they moved", y, 500000000000L, 500000000000L);
    }

    private static void listsAtTheTimeOfTheCall() {
        ArcTape x = packed(2, Tapes.row(0, 1));
        x.flip(0);
        CHECK.due("faulty", x.degree(0) < 0, true);
        CHECK.due("step(1) without links", x.step(1), 1);
        scores("all lists are empty", x, 500000000000L, 500000000000L);
        CHECK.due("nothing moved", x.change(), 0);
        x.flip(0);
        x.step(1);
        scores("links again", x, 287500000000L, 712500000000L);
    }

    private static void wrongNodes() {
        ArcTape x = triangle();
        x.start(1, 0);
        for (int v : NO_NODES) {
            CHECK.due("score(" + v + ")", x.score(v), -1);
            CHECK.due("hub(" + v + ")", x.hub(v), -1);
        }
    }
}
