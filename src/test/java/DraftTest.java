/** Promises 1 to 3: a new object, add, drop. */
public final class DraftTest {
    private static final Check CHECK = new Check();

    public static void main(String[] args) {
        numberOfNodes();
        newObject();
        addAndDrop();
        draftAloneChanges();
        CHECK.finish();
    }

    private static void numberOfNodes() {
        int[][] asked = {{Integer.MIN_VALUE, 1}, {-1, 1}, {0, 1}, {1, 1}, {2, 2}, {11, 11}, {12, 12}, {13, 12}, {Integer.MAX_VALUE, 12}};
        for (int[] pair : asked) {
            ArcTape x = new ArcTape(pair[0]);
            String name = "new ArcTape(" + pair[0] + "): ";
            CHECK.due(name + "last node", x.degree(pair[1] - 1), 0);
            CHECK.due(name + "behind it", x.degree(pair[1]), ArcTape.NONE);
            CHECK.due(name + "score", x.score(0), 1000000000000L / pair[1]);
        }
    }

    private static void newObject() {
        ArcTape x = new ArcTape(3);
        CHECK.due("NONE", ArcTape.NONE, -100);
        CHECK.due("new: stream", Tapes.bits(x, 0, 3), "111");
        CHECK.due("new: offset(3)", x.offset(3), 3);
        CHECK.due("new: bit(3)", x.bit(3), -1);
        CHECK.due("new: components()", x.components(), 3);
        CHECK.due("new: hub(1)", x.hub(1), 0);
        CHECK.due("new: change()", x.change(), 0);
        // WINDOW 0, LEAST 0 and K 1 show in how d = 1 is read on: one node in zeta at once.
        Tapes.overwrite(x, 0, "010");
        CHECK.due("new: 010 has no node behind d", x.degree(0), -1);
        ArcTape y = new ArcTape(4);
        Tapes.overwrite(y, 0, "0101");
        CHECK.due("new: 0101 is the node 0, ending behind its record", y.degree(0), -10);
        // Damping 850 and weights 1: 150 * 10^9 / 3 + 850 * (10^12 / 3) / 1000, every list being empty.
        ArcTape z = new ArcTape(3);
        z.prefer(0, 2);
        z.prefer(0, 1);
        CHECK.due("new: step(1)", z.step(1), 1);
        CHECK.due("new: score after a step", z.score(0), 50000000000L + 850L * (999999999999L / 3) / 1000);
    }

    private static void addAndDrop() {
        ArcTape x = new ArcTape(3);
        CHECK.due("add(0, 2)", x.add(0, 2), true);
        CHECK.due("add(0, 2) again", x.add(0, 2), false);
        CHECK.due("add(2, 0)", x.add(2, 0), true);
        CHECK.due("add(1, 1)", x.add(1, 1), true);
        int[] wrong = {-1, 3, 32, 34, Integer.MIN_VALUE, Integer.MAX_VALUE};
        for (int v : wrong) {
            CHECK.due("add(0, " + v + ")", x.add(0, v), false);
            CHECK.due("add(" + v + ", 0)", x.add(v, 0), false);
            CHECK.due("drop(0, " + v + ")", x.drop(0, v), false);
            CHECK.due("drop(" + v + ", 0)", x.drop(v, 0), false);
        }
        CHECK.due("drop(0, 1)", x.drop(0, 1), false);
        x.pack(0, 0, 0, 1);
        CHECK.due("list of 0", Tapes.list(x, 0), "2");
        CHECK.due("list of 1", Tapes.list(x, 1), "1");
        CHECK.due("list of 2", Tapes.list(x, 2), "0");
        CHECK.due("drop(0, 2)", x.drop(0, 2), true);
        CHECK.due("drop(0, 2) again", x.drop(0, 2), false);
        CHECK.due("drop(1, 1)", x.drop(1, 1), true);
        CHECK.due("add(1, 1) after drop", x.add(1, 1), true);
        x.pack(0, 0, 0, 1);
        CHECK.due("list of 0", Tapes.list(x, 0), "");
        CHECK.due("list of 1", Tapes.list(x, 1), "1");
    }

    private static void draftAloneChanges() {
        ArcTape x = Tapes.graph(3, Tapes.row(0, 1), Tapes.row(1, 0));
        CHECK.due("before pack: bits", x.offset(3), 3);
        CHECK.due("before pack: components()", x.components(), 3);
        x.pack(0, 0, 0, 1);
        CHECK.due("after pack: components()", x.components(), 2);
        x.drop(0, 1);
        CHECK.due("drop leaves the stream", Tapes.list(x, 0), "1");
        CHECK.due("drop leaves the components", x.components(), 2);
    }
}
