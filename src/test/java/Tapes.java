/** Makes graphs, and reads and overwrites their streams as texts of 0 and 1. */
final class Tapes {
    private static final int MOST_NODES = 12;

    private Tapes() {
    }

    /** Arcs are given as rows of a node and its successors. */
    static ArcTape graph(int n, int[]... rows) {
        ArcTape x = new ArcTape(n);
        for (int[] row : rows) {
            for (int i = 1; i < row.length; i++) {
                x.add(row[0], row[i]);
            }
        }
        return x;
    }

    static ArcTape packed(Packing packing, int n, int[]... rows) {
        ArcTape x = graph(n, rows);
        packing.of(x);
        return x;
    }

    /** Every arc is in the draft. */
    static ArcTape full(int n) {
        ArcTape x = new ArcTape(n);
        for (int u = 0; u < n; u++) {
            addSet(x, u, (1 << n) - 1);
        }
        return x;
    }

    /** The successors of u, and of no other node, are given as a number in which bit v stands for node v. */
    static ArcTape withSet(int n, int u, int set) {
        ArcTape x = new ArcTape(n);
        addSet(x, u, set);
        return x;
    }

    static void addSet(ArcTape x, int u, int set) {
        for (int v = 0; v < MOST_NODES; v++) {
            if ((set >> v & 1) != 0) {
                x.add(u, v);
            }
        }
    }

    /** The list of u as such a number, or its fault as degree tells it. */
    static int set(ArcTape x, int u) {
        int degree = x.degree(u);
        int set = Math.min(0, degree);
        for (int i = 0; i < degree; i++) {
            set |= 1 << x.successor(u, i);
        }
        return set;
    }

    static int[] row(int... nodes) {
        return nodes;
    }

    static String bits(ArcTape x, int from, int to) {
        StringBuilder text = new StringBuilder();
        for (int p = from; p < to; p++) {
            text.append(x.bit(p));
        }
        return text.toString();
    }

    /** The record of u as its bits. */
    static String record(ArcTape x, int u) {
        return bits(x, x.offset(u), x.offset(u + 1));
    }

    static void overwrite(ArcTape x, int from, String text) {
        for (int i = 0; i < text.length(); i++) {
            if (x.bit(from + i) != text.charAt(i) - '0') {
                x.flip(from + i);
            }
        }
    }

    /**
     * A graph whose stream from the offset of u on is the text and nothing behind it. Nodes behind u have no successors;
     * u has such that there are just as many bits. The rows are those of the nodes before u.
     */
    static ArcTape ending(Packing packing, int n, int u, String text, int[]... rows) {
        ArcTape x = endingOrNull(packing, n, u, text, rows);
        if (x == null) {
            throw new IllegalStateException("no graph with " + n + " nodes has a stream that ends at " + u + " with " + text);
        }
        return x;
    }

    /** The same with as many nodes as fit, for texts in which the number of nodes does not matter. */
    static ArcTape ending(Packing packing, int u, String text, int[]... rows) {
        for (int n = MOST_NODES; n > Math.max(u, greatest(rows)); n--) {
            ArcTape x = endingOrNull(packing, n, u, text, rows);
            if (x != null) {
                return x;
            }
        }
        throw new IllegalStateException("no graph has a stream that ends at " + u + " with " + text);
    }

    /** The same, or null if there is no such graph. */
    static ArcTape endingOrNull(Packing packing, int n, int u, String text, int[]... rows) {
        for (int set = 0; set < 1 << n; set++) {
            ArcTape x = graph(n, rows);
            addSet(x, u, set);
            if (packing.of(x) == x.offset(u) + text.length()) {
                overwrite(x, x.offset(u), text);
                return x;
            }
        }
        return null;
    }

    private static int greatest(int[]... rows) {
        int greatest = 0;
        for (int[] row : rows) {
            for (int v : row) {
                greatest = Math.max(greatest, v);
            }
        }
        return greatest;
    }

    /** The list of u with commas, or its fault as degree tells it. */
    static String list(ArcTape x, int u) {
        int degree = x.degree(u);
        if (degree < 0) {
            return Integer.toString(degree);
        }
        StringBuilder text = new StringBuilder();
        for (int i = 0; i < degree; i++) {
            text.append(i == 0 ? "" : ",").append(x.successor(u, i));
        }
        return text.toString();
    }
}
