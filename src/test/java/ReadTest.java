/** Promises 7 to 10: flip, degree, successor, reference, and the faults 1 to 10. */
public final class ReadTest {
    private static final Check CHECK = new Check();

    public static void main(String[] args) {
        flip();
        lists();
        references();
        endOfStream();
        zeros();
        tooManySuccessors();
        referenceOutOfReach();
        faultyReference();
        runs();
        intervals();
        singles();
        twiceAndEnd();
        CHECK.finish();
    }

    /** A graph with every arc, so that the stream has room for records that are written over it. */
    private static ArcTape full(int n, int window, int chain, int least, int k) {
        ArcTape x = new ArcTape(n);
        for (int u = 0; u < n; u++) {
            for (int v = 0; v < n; v++) {
                x.add(u, v);
            }
        }
        x.pack(window, chain, least, k);
        return x;
    }

    private static void fault(String name, ArcTape x, int u, String record, int number) {
        Tapes.overwrite(x, x.offset(u), record);
        CHECK.due(name + ": degree(" + u + ")", x.degree(u), -number);
        CHECK.due(name + ": successor(" + u + ", 0)", x.successor(u, 0), -1);
        CHECK.due(name + ": reference(" + u + ")", x.reference(u), -1);
    }

    private static void good(String name, ArcTape x, int u, String record, String list) {
        Tapes.overwrite(x, x.offset(u), record);
        CHECK.due(name + ": list of " + u, Tapes.list(x, u), list);
    }

    private static void flip() {
        ArcTape x = Tapes.graph(3, Tapes.row(0, 1));
        x.pack(0, 0, 0, 1);
        // 010 011, then 1 and 1.
        CHECK.due("flip(5)", x.flip(5), true);
        CHECK.due("bit(5)", x.bit(5), 0);
        CHECK.due("1 becomes -1", x.degree(0), -8);
        CHECK.due("flip(5) again", x.flip(5), true);
        CHECK.due("bit(5)", x.bit(5), 1);
        CHECK.due("1 again", x.degree(0), 1);
        CHECK.due("flip(7), the last", x.flip(7), true);
        CHECK.due("degree(2)", x.degree(2), -1);
        int[] wrong = {-1, 8, Integer.MIN_VALUE, Integer.MAX_VALUE};
        for (int p : wrong) {
            CHECK.due("flip(" + p + ")", x.flip(p), false);
        }
        CHECK.due("stream", Tapes.bits(x, 0, 8), "01001110");
        CHECK.due("offsets stay", x.offset(3), 8);
        x.pack(0, 0, 0, 1);
        CHECK.due("pack writes all anew", Tapes.bits(x, 0, 8), "01001111");
    }

    private static void lists() {
        ArcTape x = Tapes.graph(5, Tapes.row(2, 4, 0, 3));
        x.pack(3, 2, 2, 3);
        CHECK.due("degree(2)", x.degree(2), 3);
        CHECK.due("degree(0)", x.degree(0), 0);
        CHECK.due("successor(2, 0)", x.successor(2, 0), 0);
        CHECK.due("successor(2, 1)", x.successor(2, 1), 3);
        CHECK.due("successor(2, 2)", x.successor(2, 2), 4);
        int[] noNumbers = {-1, 3, Integer.MIN_VALUE, Integer.MAX_VALUE};
        for (int i : noNumbers) {
            CHECK.due("successor(2, " + i + ")", x.successor(2, i), -1);
        }
        CHECK.due("successor(0, 0)", x.successor(0, 0), -1);
        int[] noNodes = {-1, 5, 34, Integer.MIN_VALUE, Integer.MAX_VALUE};
        for (int u : noNodes) {
            CHECK.due("degree(" + u + ")", x.degree(u), -100);
            CHECK.due("successor(" + u + ", 0)", x.successor(u, 0), -1);
            CHECK.due("reference(" + u + ")", x.reference(u), -1);
        }
    }

    private static void references() {
        ArcTape x = Tapes.graph(12, Tapes.row(5, 6));
        x.pack(2, 1, 0, 1);
        CHECK.due("record of 5", Tapes.record(x, 5), "010" + "1" + "011");
        CHECK.due("reference(5)", x.reference(5), 0);
        CHECK.due("reference(4), d 0", x.reference(4), 0);
        // As read, a reference may be to a node without successors: no runs, 5 as the rest.
        good("empty Y", x, 5, "010" + "01" + "1" + "1", "5");
        CHECK.due("reference(5) to an empty list", x.reference(5), 1);
    }

    private static void endOfStream() {
        fault("1, in the unary part", new ArcTape(1), 0, "0", 1);
        fault("1, in gamma", new ArcTape(2), 0, "01", 1);
        fault("1, at a reference", packed(3, 1, 1, 0, 1), 0, "010", 1);
        fault("1, at a count of runs", packed(6, 1, 1, 0, 1), 1, "010" + "01", 1);
        fault("1, at a count of intervals", packed(3, 0, 0, 1, 1), 0, "010", 1);
        fault("1, at a node", packed(3, 0, 0, 0, 1), 0, "010", 1);
        fault("1, in zeta", packed(4, 0, 0, 0, 4), 0, "010" + "1", 1);
        fault("1, in the one bit more", packed(5, 0, 0, 0, 2), 0, "010" + "11", 1);
        fault("6 zeros and the end", new ArcTape(6), 0, "000000", 1);
    }

    private static ArcTape packed(int n, int window, int chain, int least, int k) {
        ArcTape x = new ArcTape(n);
        x.pack(window, chain, least, k);
        return x;
    }

    private static void zeros() {
        fault("2, in d", new ArcTape(12), 0, "0000000", 2);
        fault("2, as the last bit", new ArcTape(7), 0, "0000000", 2);
        fault("six zeros: d is 63", full(12, 0, 0, 0, 1), 0, "0000001" + "000000", 3);
        fault("2, in r", full(12, 6, 3, 0, 1), 8, "010" + "0000000", 2);
        fault("2, in a count of runs", full(12, 6, 3, 0, 1), 1, "010" + "01" + "0000000", 2);
        fault("2, in a count of intervals", full(12, 0, 0, 3, 1), 0, "010" + "0000000", 2);
        fault("2, in zeta", full(12, 0, 0, 0, 2), 0, "010" + "0000000", 2);
        // Six zeros in zeta with K 4 are 28 bits behind them at most.
        ArcTape x = full(12, 0, 0, 0, 4);
        fault("six zeros in zeta", x, 0, "010" + "0000001" + "111111111111111111111111111" + "1", 8);
    }

    private static void tooManySuccessors() {
        fault("3, d is n + 1", new ArcTape(5), 0, "00111", 3);
        fault("d is n", new ArcTape(5), 0, "00110", 1);
        fault("3 before r is read", packed(5, 6, 3, 0, 1), 0, "00111", 3);
    }

    private static void referenceOutOfReach() {
        fault("4, more than u", packed(12, 2, 1, 0, 1), 0, "010" + "01", 4);
        fault("4, more than u by one", packed(12, 6, 1, 0, 1), 1, "010" + "001", 4);
        fault("4, more than the window", packed(12, 2, 1, 0, 1), 5, "010" + "0001", 4);
        fault("window 0: no r is read", packed(12, 0, 0, 0, 1), 5, "010" + "1", 10);
        fault("4 before 5, chain 0", packed(12, 1, 0, 0, 1), 5, "010" + "001", 4);
    }

    private static void faultyReference() {
        fault("5, chain 0", packed(12, 2, 0, 0, 1), 5, "010" + "01", 5);
        ArcTape x = packed(12, 2, 1, 0, 1);
        Tapes.overwrite(x, 0, "00100" + "010" + "01");
        CHECK.due("faulty node 4", x.degree(4) < 0, true);
        fault("5, faulty", x, 5, "010" + "01", 5);
        // Four times the same list: the depths are 0, 1, 2 and, with r = 2 instead of 1, 2.
        ArcTape y = new ArcTape(12);
        for (int u = 0; u < 4; u++) {
            for (int v = 0; v < 12; v += 3) {
                y.add(u, v);
            }
        }
        y.pack(3, 2, 0, 1);
        CHECK.due("record of 2", Tapes.record(y, 2), "00101" + "01" + "1");
        CHECK.due("record of 3", Tapes.record(y, 3), "00101" + "001" + "1");
        fault("5, depth is the chain", y, 3, "00101" + "01" + "1", 5);
        good("depth is below the chain", y, 3, "00101" + "001" + "1", "0,3,6,9");
        CHECK.due("reference(3)", y.reference(3), 2);
    }

    private static void runs() {
        // Node 0 has 0, 3, 6, 9; the record of node 1 begins 010 or 011, 01 and is written over.
        ArcTape x = new ArcTape(12);
        for (int v = 0; v < 12; v += 3) {
            x.add(0, v);
            x.add(1, v);
        }
        x.pack(1, 1, 0, 1);
        CHECK.due("record of 1", Tapes.record(x, 1), "00101" + "01" + "1");
        fault("6, first run", x, 1, "00101" + "01" + "010" + "00110", 6);
        fault("6, second run", x, 1, "00101" + "01" + "011" + "00100" + "010", 6);
        fault("6, first copied more than d", x, 1, "011" + "01" + "010" + "00100", 6);
        fault("6, what is left is more than d", x, 1, "011" + "01" + "1", 6);
        // 0 copied, 3 left out, 6 and 9 copied: three, and d is 2.
        fault("6, with what is left more than d", x, 1, "011" + "01" + "011" + "010" + "1", 6);
        fault("6, Y is empty", packed(12, 1, 1, 0, 1), 1, "010" + "01" + "010" + "010", 6);
        fault("Y is empty, a run of 0", packed(12, 1, 1, 0, 1), 1, "010" + "01" + "010" + "1", 10);
        ArcTape y = Tapes.graph(12, Tapes.row(0, 0, 3, 6, 9), Tapes.row(1, 11));
        y.pack(1, 1, 0, 1);
        CHECK.due("record of 1", Tapes.record(y, 1), "010" + "1" + "000010101");
        // Three runs: none copied, 0 left out, 3 copied; 6 and 9 are left out behind them.
        good("a run copied", y, 1, "010" + "01" + "00100" + "1" + "1" + "1", "3");
        CHECK.due("reference(1)", y.reference(1), 1);
    }

    private static void intervals() {
        fault("7, first below 0", packed(12, 0, 0, 2, 1), 0, "010" + "010" + "010", 7);
        fault("7, more than the rest", packed(12, 0, 0, 2, 1), 0, "010" + "010" + "1" + "1", 7);
        ArcTape x = full(3, 0, 0, 2, 1);
        CHECK.due("record of 0", Tapes.record(x, 0), "00100" + "010" + "1" + "010");
        fault("7, first behind n - 1", x, 0, "00100" + "010" + "00111", 7);
        fault("7, last behind n - 1", x, 0, "00100" + "010" + "00101" + "1", 7);
        fault("7, second first behind n - 1", x, 0, "00100" + "011" + "1" + "1" + "1", 7);
        fault("7, looked for before the length", x, 2, "00100" + "010" + "00101" + "000", 7);
        fault("7, together more than the rest", full(12, 0, 0, 1, 1), 0, "010" + "011" + "1" + "1" + "1" + "1", 7);
        // Node 0 and nodes 2, 3 as intervals: count 2, 0, 1 - 1, 2 - 0 - 2, 2 - 1.
        ArcTape y = Tapes.graph(6, Tapes.row(0, 0, 2, 3));
        y.pack(0, 0, 1, 1);
        CHECK.due("record of 0", Tapes.record(y, 0), "00100" + "011" + "1" + "1" + "1" + "010");
        good("the other way about", y, 0, "00100" + "011" + "1" + "010" + "1" + "1", "0,1,3");
    }

    private static void singles() {
        fault("8, first below 0", packed(12, 0, 0, 0, 1), 0, "010" + "010", 8);
        fault("8, first behind n - 1", full(3, 0, 0, 0, 1), 0, "010" + "00111", 8);
        fault("8, second behind n - 1", full(3, 0, 0, 0, 1), 0, "011" + "1" + "011", 8);
        // Two nodes behind an interval of two: 0, 1 and 3, 5.
        ArcTape x = Tapes.graph(6, Tapes.row(0, 0, 1, 3, 5));
        x.pack(0, 0, 2, 1);
        CHECK.due("record of 0", Tapes.record(x, 0), "00101" + "010" + "1" + "1" + "00111" + "010");
        good("2 for 3, and 4", x, 0, "00101" + "010" + "1" + "1" + "00101" + "010", "0,1,2,4");
    }

    private static void twiceAndEnd() {
        ArcTape x = Tapes.graph(12, Tapes.row(0, 0, 3, 6, 9), Tapes.row(1, 0, 3, 6, 9));
        x.pack(1, 1, 0, 1);
        // One more than copied: 3 - 1 as 4.
        fault("9, copied and behind, before 10", x, 1, "00110" + "01" + "1" + "00101", 9);
        ArcTape y = Tapes.graph(6, Tapes.row(0, 0, 1, 3));
        y.pack(0, 0, 2, 1);
        CHECK.due("record of 0", Tapes.record(y, 0), "00100" + "010" + "1" + "1" + "00111");
        good("2, 3 and 0", y, 0, "00100" + "010" + "00101" + "1" + "1", "0,2,3");
        fault("9, in an interval and behind", y, 0, "00100" + "010" + "011" + "1" + "011", 9);
        ArcTape z = Tapes.graph(6, Tapes.row(1, 0, 1, 3));
        z.pack(0, 0, 2, 1);
        CHECK.due("record of 1", Tapes.record(z, 1), "00100" + "010" + "010" + "1" + "00101");
        fault("10, two bits before its end", z, 1, "00100" + "010" + "010" + "1" + "011", 10);
        fault("9 before 10", z, 1, "00100" + "010" + "010" + "1" + "1", 9);
        ArcTape w = new ArcTape(12);
        fault("10, behind its end", w, 0, "010" + "1", 10);
        ArcTape v = Tapes.graph(3, Tapes.row(0, 1));
        v.pack(0, 0, 0, 1);
        fault("10, before its end", v, 0, "010" + "1", 10);
        fault("10, d is 0", v, 0, "1", 10);
    }
}
