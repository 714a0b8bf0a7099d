/** Makes graphs, and reads and overwrites their streams as texts of 0 and 1. */
final class Tapes {
    private Tapes() {
    }

    /** Arcs are given as rows of a node and its successors. */
    static ArcTape graph(int n, int[]... rows) {
        ArcTape x = new ArcTape(n);
        for (int[] row : rows) {
            for (int i = 1; i < row.length; i++) {
                x.add(row[0], row[i]);
            }
        }
        return x;
    }

    static int[] row(int... nodes) {
        return nodes;
    }

    static String bits(ArcTape x, int from, int to) {
        StringBuilder text = new StringBuilder();
        for (int p = from; p < to; p++) {
            text.append(x.bit(p));
        }
        return text.toString();
    }

    /** The record of u as its bits. */
    static String record(ArcTape x, int u) {
        return bits(x, x.offset(u), x.offset(u + 1));
    }

    static void overwrite(ArcTape x, int from, String text) {
        for (int i = 0; i < text.length(); i++) {
            if (x.bit(from + i) != text.charAt(i) - '0') {
                x.flip(from + i);
            }
        }
    }

    /** The list of u with commas, or its fault as degree tells it. */
    static String list(ArcTape x, int u) {
        if (x.degree(u) < 0) {
            return Integer.toString(x.degree(u));
        }
        StringBuilder text = new StringBuilder();
        for (int i = 0; i < x.degree(u); i++) {
            text.append(i == 0 ? "" : ",").append(x.successor(u, i));
        }
        return text.toString();
    }
}
