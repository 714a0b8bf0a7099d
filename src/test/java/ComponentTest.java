/** What the document says of components, and promises 11 and 12: components and component. */
public final class ComponentTest {
    private static final Packing PLAIN = new Packing(0, 0, 0, 1);

    public static void main(String[] args) {
        Sentences.test(ComponentTest.class);
    }

    private static ArcTape packed(int n, int[]... rows) {
        return Tapes.packed(PLAIN, n, rows);
    }

    private static void numbers(Check check, String name, ArcTape x, String due) {
        String[] numbers = due.split(" ");
        StringBuilder got = new StringBuilder();
        int most = -1;
        for (int v = 0; v < numbers.length; v++) {
            got.append(v == 0 ? "" : " ").append(x.component(v));
            most = Math.max(most, Integer.parseInt(numbers[v]));
        }
        check.due(name, got.toString(), due);
        check.due(name + ": components()", x.components(), most + 1);
    }

    @Sentence("u LEADS to v if u is v")
    static void withoutLinks(Check check) {
        numbers(check, "one node", packed(1), "0");
        numbers(check, "one node, linked to itself", packed(1, Tapes.row(0, 0)), "0");
        numbers(check, "three nodes", packed(3), "0 1 2");
        numbers(check, "twelve nodes", packed(12), "0 1 2 3 4 5 6 7 8 9 10 11");
        numbers(check, "arcs to themselves", packed(3, Tapes.row(0, 0), Tapes.row(1, 1), Tapes.row(2, 2)), "0 1 2");
    }

    @Sentence("or one comes from u to v along links.")
    static void longWays(Check check) {
        int[][] ring = new int[12][];
        int[][] back = new int[12][];
        for (int u = 0; u < 12; u++) {
            ring[u] = Tapes.row(u, (u + 1) % 12);
            back[u] = Tapes.row(u, (u + 11) % 12);
        }
        numbers(check, "a ring of twelve", packed(12, ring), "0 0 0 0 0 0 0 0 0 0 0 0");
        numbers(check, "a ring the other way", packed(12, back), "0 0 0 0 0 0 0 0 0 0 0 0");
        // 0, 7, 2, 9, 4, 11, 6, 1, 8, 3, 10, 5, 0: the nodes on the way come in no order.
        int[][] star = new int[12][];
        for (int u = 0; u < 12; u++) {
            star[u] = Tapes.row(u, (u + 7) % 12);
        }
        numbers(check, "a ring that jumps", packed(12, star), "0 0 0 0 0 0 0 0 0 0 0 0");
    }

    @Sentence("Two nodes are in the same component if each leads to the other.")
    static void oneWayOnly(Check check) {
        numbers(check, "there and back", packed(2, Tapes.row(0, 1), Tapes.row(1, 0)), "0 0");
        numbers(check, "there only", packed(2, Tapes.row(0, 1)), "1 0");
        numbers(check, "back only", packed(2, Tapes.row(1, 0)), "0 1");
        numbers(check, "two rings of two, linked one way", packed(4, Tapes.row(0, 1, 2), Tapes.row(1, 0), Tapes.row(2, 3), Tapes.row(3, 2)), "1 1 0 0");
        numbers(check, "two rings that share a node", packed(5, Tapes.row(0, 1), Tapes.row(1, 0, 3), Tapes.row(3, 4), Tapes.row(4, 1)), "0 0 1 0 0");
    }

    @Sentence("of the components without a number yet of which every link leads into themselves or into components with a number")
    static void ready(Check check) {
        numbers(check, "a chain", packed(3, Tapes.row(0, 1), Tapes.row(1, 2)), "2 1 0");
        numbers(check, "a chain upwards", packed(3, Tapes.row(2, 1), Tapes.row(1, 0)), "0 1 2");
        numbers(check, "a long chain", packed(12, Tapes.row(0, 1), Tapes.row(1, 2), Tapes.row(2, 3), Tapes.row(3, 4), Tapes.row(4, 5), Tapes.row(5, 6),
            Tapes.row(6, 7), Tapes.row(7, 8), Tapes.row(8, 9), Tapes.row(9, 10), Tapes.row(10, 11)), "11 10 9 8 7 6 5 4 3 2 1 0");
        numbers(check, "two ways", packed(4, Tapes.row(0, 1, 3), Tapes.row(1, 2), Tapes.row(3, 2)), "3 1 0 2");
    }

    @Sentence("the one that has the least node gets the next number.")
    static void leastNode(Check check) {
        numbers(check, "1 and 2 are ready, and 3", packed(4, Tapes.row(0, 3), Tapes.row(1, 2), Tapes.row(2, 1), Tapes.row(3, 3)), "2 0 0 1");
        // 2 is ready all the time, but 0, which is less, becomes ready before its turn.
        numbers(check, "ready later", packed(3, Tapes.row(0, 1)), "1 0 2");
        // 4 is less than 5, then 1 is less than 5; 0 and 3 wait for 5, and 2 waits for them.
        numbers(check, "two rings", packed(6, Tapes.row(0, 3, 5), Tapes.row(3, 0), Tapes.row(1, 4), Tapes.row(2, 0)), "3 1 4 3 0 2");
        // The ring of 0 and 5 comes before 1, though 5 is more than all others.
        numbers(check, "by its least, not by its greatest", packed(6, Tapes.row(0, 5), Tapes.row(5, 0)), "0 1 2 3 4 0");
    }

    @Sentence("the list of a node whose record is faulty is empty.")
    static void faulty(Check check) {
        ArcTape x = packed(3, Tapes.row(0, 1), Tapes.row(1, 0));
        numbers(check, "a ring", x, "0 0 1");
        x.flip(0);
        check.due("degree(0) < 0", x.degree(0) < 0, true);
        numbers(check, "0 is faulty", x, "0 1 2");
        x.flip(0);
        numbers(check, "as before", x, "0 0 1");
    }

    @Sentence("All that is said below of lists, and so of scores and components, is about the stream as it is at the time of the call.")
    static void atTheTimeOfTheCall(Check check) {
        ArcTape x = Tapes.graph(3, Tapes.row(0, 1), Tapes.row(1, 0));
        numbers(check, "the draft does not count", x, "0 1 2");
        PLAIN.of(x);
        numbers(check, "packed", x, "0 0 1");
        x.drop(1, 0);
        numbers(check, "drop does not count", x, "0 0 1");
        PLAIN.of(x);
        numbers(check, "packed again", x, "1 0 2");
        // 010 011 1 1 becomes 000 011 1 1: d has four zeros, and too few bits behind them.
        x.flip(1);
        numbers(check, "flipped", x, "0 1 2");
        x.add(2, 0);
        x.pack(7, 0, 0, 1);
        numbers(check, "a refused packing does not count", x, "0 1 2");
    }

    @Sentence("The number of components.")
    static void howMany(Check check) {
        ArcTape x = new ArcTape(12);
        for (int u = 0; u < 12; u++) {
            check.due("components(), a ring of " + Math.max(1, u), x.components(), u == 0 ? 12 : 13 - u);
            // One node more comes into the ring through node 0.
            x.add(0, u);
            x.add(u, 0);
            PLAIN.of(x);
        }
        check.due("components(), a ring of 12", x.components(), 1);
    }

    @Sentence("The number of the component of node v; -1 if v is not a node.")
    static void noNode(Check check) {
        for (int n = 1; n <= 12; n++) {
            ArcTape x = packed(n);
            for (int wrong : new int[] {-1, n, n + 1, 32, -32, Integer.MIN_VALUE, Integer.MAX_VALUE}) {
                check.due(n + " nodes: component(" + wrong + ")", x.component(wrong), -1);
            }
            check.due(n + " nodes: component(n - 1)", x.component(n - 1), n - 1);
        }
    }
}
