/** Promises 4 to 6: pack, offset, bit; every expected stream is worked out by hand from the document's codes. */
public final class PackTest {
    private static final Check CHECK = new Check();

    public static void main(String[] args) {
        wholeStream();
        zeta();
        intervals();
        runs();
        choiceOfReference();
        chain();
        refused();
        places();
        whatStays();
        CHECK.finish();
    }

    private static void wholeStream() {
        ArcTape x = Tapes.graph(4, Tapes.row(0, 1, 2));
        CHECK.due("pack", x.pack(0, 0, 0, 1), 10);
        // d = 2: 011; 1 - 0 as 2: 011; 2 - 1 - 1 = 0: 1; then three nodes with d = 0.
        CHECK.due("stream", Tapes.bits(x, 0, 10), "0110111" + "111");
        CHECK.due("offset(0)", x.offset(0), 0);
        CHECK.due("offset(1)", x.offset(1), 7);
        CHECK.due("offset(3)", x.offset(3), 9);
        CHECK.due("offset(4)", x.offset(4), 10);
        CHECK.due("with a window: one bit more for r, none where d is 0", x.pack(3, 2, 0, 1), 11);
        CHECK.due("record of 0", Tapes.record(x, 0), "011" + "1" + "0111");
        CHECK.due("no arcs", new ArcTape(12).pack(6, 3, 9, 4), 12);
    }

    private static void zeta() {
        int[][] arcs = {{0, 0}, {0, 1}, {0, 2}, {0, 4}, {0, 8}, {8, 0}, {4, 0}};
        String[][] due = {
            {"1", "10", "100", "1000"},
            {"011", "111", "1011", "10011"},
            {"00101", "01001", "1101", "10101"},
            {"0001001", "011001", "0100001", "11001"},
            {"000010001", "00100001", "01010001", "010000001"},
            {"000010000", "00100000", "01010000", "010000000"},
            {"0001000", "011000", "0100000", "11000"},
        };
        for (int i = 0; i < arcs.length; i++) {
            int u = arcs[i][0];
            ArcTape x = Tapes.graph(9, Tapes.row(u, arcs[i][1]));
            for (int k = 1; k <= 4; k++) {
                x.pack(0, 0, 0, k);
                CHECK.due("zeta of " + u + " to " + arcs[i][1] + ", K " + k, Tapes.record(x, u), "010" + due[i][k - 1]);
            }
        }
    }

    private static void intervals() {
        ArcTape x = Tapes.graph(8, Tapes.row(3, 0, 1, 2, 5, 6, 7));
        x.pack(0, 0, 3, 1);
        // d = 6; two intervals; 0 - 3 as 5; 3 - 3; 5 - 2 - 2 = 1; 3 - 3.
        CHECK.due("least 3", Tapes.record(x, 3), "00111" + "011" + "00110" + "1" + "010" + "1");
        x.pack(0, 0, 4, 1);
        // No interval; 0 - 3 as 5, then 0, 0, 2, 0, 0.
        CHECK.due("least 4", Tapes.record(x, 3), "00111" + "1" + "00110" + "1" + "1" + "011" + "1" + "1");
        x.pack(0, 0, 0, 1);
        CHECK.due("least 0", Tapes.record(x, 3), "00111" + "00110" + "1" + "1" + "011" + "1" + "1");
        x.drop(3, 6);
        x.pack(0, 0, 1, 1);
        // Intervals 0 .. 2, 5, 7: 0 - 3 as 5, 2; 5 - 2 - 2 = 1, 0; 7 - 5 - 2 = 0, 0.
        CHECK.due("least 1", Tapes.record(x, 3), "00110" + "00100" + "00110" + "011" + "010" + "1" + "1" + "1");
        x.pack(0, 0, 2, 2);
        // Interval 0 .. 2 with 3 - 2 = 1 more; then 5 - 3 as 4 and 7 - 5 - 1 = 1 in zeta with K 2.
        CHECK.due("least 2", Tapes.record(x, 3), "00110" + "010" + "00110" + "010" + "01001" + "110");
    }

    private static void runs() {
        ArcTape x = Tapes.graph(12, Tapes.row(0, 0, 2, 3, 5, 7, 9, 11), Tapes.row(1, 0, 2, 5, 7, 9, 11));
        x.pack(1, 1, 0, 1);
        // d = 6, r = 1, two runs written: 2 copied, 1 left out.
        CHECK.due("last run copied", Tapes.record(x, 1), "00111" + "01" + "011" + "011" + "1");
        CHECK.due("no intervals where there is no rest", x.pack(1, 1, 2, 1) - x.offset(2), 10);
        CHECK.due("no rest", Tapes.record(x, 1), "00111" + "01" + "011" + "011" + "1");
        ArcTape y = Tapes.graph(12, Tapes.row(0, 0, 2, 4, 6, 8, 10, 11), Tapes.row(1, 2, 4, 6, 8, 10));
        y.pack(1, 1, 0, 1);
        // d = 5, r = 1, runs of 0, 1, 5 and 1, of which three are written: 0, 1 - 1, 5 - 1.
        CHECK.due("first run empty, last left out", Tapes.record(y, 1), "00110" + "01" + "00100" + "1" + "1" + "00101");
        ArcTape z = Tapes.graph(12, Tapes.row(5, 0, 2, 3, 5, 7, 9, 11), Tapes.row(6, 2, 3, 5, 7, 8, 9, 11));
        z.pack(1, 1, 1, 1);
        // d = 7, r = 1, runs of 0, 1 and 6, two are written: 1, 1; one interval, 8 - 6 as 4, of 1 number.
        CHECK.due("copied and rest", Tapes.record(z, 6), "0001000" + "01" + "011" + "1" + "1" + "010" + "00101" + "1");
        z.pack(1, 1, 0, 1);
        CHECK.due("copied and rest, least 0", Tapes.record(z, 6), "0001000" + "01" + "011" + "1" + "1" + "00101");
    }

    private static void choiceOfReference() {
        int[] same = {0, 3, 5, 7, 9, 11};
        ArcTape x = Tapes.graph(12);
        for (int v : same) {
            x.add(2, v);
            x.add(4, v);
            x.add(6, v);
        }
        x.pack(6, 3, 0, 1);
        CHECK.due("nothing before it", x.reference(2), 0);
        CHECK.due("over a node without successors", x.reference(4), 2);
        CHECK.due("the nearest is the shortest", x.reference(6), 2);
        x.pack(1, 3, 0, 1);
        CHECK.due("out of the window", x.reference(4), 0);
        // r = 0: 010 1 010; r = 2: 010 001 1: seven bits each.
        ArcTape y = Tapes.graph(3, Tapes.row(0, 1), Tapes.row(2, 1));
        y.pack(2, 1, 0, 1);
        CHECK.due("0 and 2 are equal", Tapes.record(y, 2), "010" + "1" + "010");
        // r = 1: 01, all copied, 2 as the rest: 1 1; r = 2: 001, all copied: 1; four bits each behind d.
        ArcTape z = Tapes.graph(6, Tapes.row(0, 0, 2, 5), Tapes.row(1, 0, 5), Tapes.row(2, 0, 2, 5));
        z.pack(2, 3, 0, 1);
        CHECK.due("1 and 2 are equal", Tapes.record(z, 2), "00100" + "01" + "1" + "1");
    }

    private static void chain() {
        int[] same = {0, 3, 5, 7, 9, 11};
        ArcTape x = Tapes.graph(12);
        for (int u = 0; u < 6; u++) {
            for (int v : same) {
                x.add(u, v);
            }
        }
        int[][] due = {{0, 0, 0, 0, 0, 0}, {0, 1, 2, 3, 4, 5}, {0, 1, 1, 2, 3, 4}, {0, 1, 1, 1, 2, 3}};
        for (int chain = 0; chain <= 3; chain++) {
            x.pack(6, chain, 0, 1);
            for (int u = 0; u < 6; u++) {
                CHECK.due("chain " + chain + ": reference(" + u + ")", x.reference(u), due[chain][u]);
                CHECK.due("chain " + chain + ": list of " + u, Tapes.list(x, u), "0,3,5,7,9,11");
            }
        }
    }

    private static void refused() {
        ArcTape x = Tapes.graph(4, Tapes.row(0, 1, 2));
        x.pack(1, 1, 1, 2);
        String before = Tapes.bits(x, 0, x.offset(4));
        x.add(1, 1);
        int[][] wrong = {{-1, 0, 0, 1}, {7, 0, 0, 1}, {0, -1, 0, 1}, {0, 4, 0, 1}, {0, 0, -1, 1}, {0, 0, 10, 1}, {0, 0, 0, 0}, {0, 0, 0, 5},
            {Integer.MIN_VALUE, 0, 0, 1}, {0, Integer.MAX_VALUE, 0, 1}, {0, 0, Integer.MAX_VALUE, 1}, {0, 0, 0, Integer.MIN_VALUE}};
        for (int[] w : wrong) {
            CHECK.due("pack(" + w[0] + ", " + w[1] + ", " + w[2] + ", " + w[3] + ")", x.pack(w[0], w[1], w[2], w[3]), -1);
        }
        CHECK.due("stream after refusals", Tapes.bits(x, 0, x.offset(4)), before);
        CHECK.due("read as before", Tapes.list(x, 0), "1,2");
        CHECK.due("least of each", x.pack(0, 0, 0, 1) > 0, true);
        CHECK.due("most of each", x.pack(6, 3, 9, 4) > 0, true);
        CHECK.due("packed anew", Tapes.list(x, 1), "1");
    }

    private static void places() {
        ArcTape x = Tapes.graph(4, Tapes.row(0, 1, 2));
        x.pack(0, 0, 0, 1);
        int[] wrong = {-1, 5, Integer.MIN_VALUE, Integer.MAX_VALUE};
        for (int u : wrong) {
            CHECK.due("offset(" + u + ")", x.offset(u), -1);
        }
        int[] noPlaces = {-1, 10, 11, Integer.MIN_VALUE, Integer.MAX_VALUE};
        for (int p : noPlaces) {
            CHECK.due("bit(" + p + ")", x.bit(p), -1);
        }
        CHECK.due("bit(9)", x.bit(9), 1);
        x.drop(0, 1);
        x.drop(0, 2);
        CHECK.due("packed shorter", x.pack(0, 0, 0, 1), 4);
        CHECK.due("bit(4) is gone", x.bit(4), -1);
        CHECK.due("offset(4)", x.offset(4), 4);
    }

    private static void whatStays() {
        ArcTape x = Tapes.graph(3, Tapes.row(0, 1), Tapes.row(1, 2));
        x.pack(0, 0, 0, 1);
        x.prefer(2, 5);
        x.start(1, 0);
        x.step(1);
        long[] before = {x.score(0), x.score(1), x.hub(1), x.hub(2), x.change()};
        x.add(2, 2);
        x.pack(2, 2, 2, 2);
        long[] after = {x.score(0), x.score(1), x.hub(1), x.hub(2), x.change()};
        for (int i = 0; i < before.length; i++) {
            CHECK.due("pack leaves score, hub and change, " + i, after[i], before[i]);
        }
        x.prefer(0, 0);
        x.prefer(1, 0);
        CHECK.due("pack leaves weights", x.prefer(2, 0), false);
    }
}
