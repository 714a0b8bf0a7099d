/** Promises 11 and 12: components and component. */
public final class ComponentTest {
    private static final Check CHECK = new Check();

    public static void main(String[] args) {
        numbers("no arcs", packed(3), "0 1 2");
        numbers("a chain", packed(3, Tapes.row(0, 1), Tapes.row(1, 2)), "2 1 0");
        numbers("a chain upwards", packed(3, Tapes.row(2, 1), Tapes.row(1, 0)), "0 1 2");
        numbers("an arc to itself", packed(2, Tapes.row(0, 0), Tapes.row(1, 1)), "0 1");
        numbers("a ring", packed(4, Tapes.row(0, 1), Tapes.row(1, 2), Tapes.row(2, 3), Tapes.row(3, 0)), "0 0 0 0");
        // 4 is less than 5, then 1 is less than 5; 0 and 3 wait for 5, and 2 waits for them.
        numbers("two rings", packed(6, Tapes.row(0, 3, 5), Tapes.row(3, 0), Tapes.row(1, 4), Tapes.row(2, 0)), "3 1 4 3 0 2");
        numbers("by the least node", packed(4, Tapes.row(0, 3), Tapes.row(1, 2), Tapes.row(2, 1), Tapes.row(3, 3)), "2 0 0 1");
        // 2 is ready all the time, but 0, which is less, becomes ready before its turn.
        numbers("ready later", packed(3, Tapes.row(0, 1)), "1 0 2");
        wrongNodes();
        afterFlip();
        CHECK.finish();
    }

    private static ArcTape packed(int n, int[]... rows) {
        ArcTape x = Tapes.graph(n, rows);
        x.pack(0, 0, 0, 1);
        return x;
    }

    private static void numbers(String name, ArcTape x, String due) {
        String[] numbers = due.split(" ");
        StringBuilder got = new StringBuilder();
        int most = -1;
        for (int v = 0; v < numbers.length; v++) {
            got.append(v == 0 ? "" : " ").append(x.component(v));
            most = Math.max(most, x.component(v));
        }
        CHECK.due(name, got.toString(), due);
        CHECK.due(name + ": components()", x.components(), most + 1);
    }

    private static void wrongNodes() {
        ArcTape x = packed(3);
        int[] wrong = {-1, 3, Integer.MIN_VALUE, Integer.MAX_VALUE};
        for (int v : wrong) {
            CHECK.due("component(" + v + ")", x.component(v), -1);
        }
    }

    private static void afterFlip() {
        ArcTape x = packed(3, Tapes.row(0, 1), Tapes.row(1, 0));
        CHECK.due("components()", x.components(), 2);
        x.flip(0);
        CHECK.due("a faulty record has an empty list", x.components(), 3);
        CHECK.due("component(0)", x.component(0), 0);
        CHECK.due("component(1)", x.component(1), 1);
        x.flip(0);
        CHECK.due("components() again", x.components(), 2);
        CHECK.due("component(1) again", x.component(1), 0);
    }
}
