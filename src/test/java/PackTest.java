/** What the document says of packing, and promises 4 to 6: pack, offset, bit; every expected stream is worked out by hand. */
public final class PackTest {
    private static final Packing PLAIN = new Packing(0, 0, 0, 1);

    public static void main(String[] args) {
        Sentences.test(PackTest.class);
    }

    private static ArcTape withRow(int n, int u, int first, int count) {
        ArcTape x = new ArcTape(n);
        for (int v = first; v < first + count; v++) {
            x.add(u, v);
        }
        return x;
    }

    @Sentence("PACKING has a WINDOW of 0 .. 6, a CHAIN of 0 .. 3, a LEAST of 0 .. 9 and a K of 1 .. 4.")
    static void eachOfTheRanges(Check check) {
        for (int window = 0; window <= 6; window++) {
            for (int chain = 0; chain <= 3; chain++) {
                ArcTape x = Tapes.graph(5, Tapes.row(0, 1, 2, 4), Tapes.row(3, 1, 2, 4));
                for (int least = 0; least <= 9; least++) {
                    for (int k = 1; k <= 4; k++) {
                        String name = "pack(" + window + ", " + chain + ", " + least + ", " + k + ")";
                        check.due(name, x.pack(window, chain, least, k), x.offset(5));
                        check.due(name + ": list of 3", Tapes.list(x, 3), "1,2,4");
                    }
                }
            }
        }
    }

    @Sentence("refused with -1 if one of the four is out of its range.")
    static void outOfTheRanges(Check check) {
        int[][] wrong = {{-1, 0, 0, 1}, {7, 0, 0, 1}, {0, -1, 0, 1}, {0, 4, 0, 1}, {0, 0, -1, 1}, {0, 0, 10, 1}, {0, 0, 0, 0}, {0, 0, 0, 5},
            {0, 0, 0, -1}, {6, 3, 9, 5}, {6, 3, 10, 4}, {6, 4, 9, 4}, {7, 3, 9, 4}, {Integer.MIN_VALUE, 0, 0, 1}, {Integer.MAX_VALUE, 0, 0, 1},
            {0, Integer.MIN_VALUE, 0, 1}, {0, Integer.MAX_VALUE, 0, 1}, {0, 0, Integer.MIN_VALUE, 1}, {0, 0, Integer.MAX_VALUE, 1},
            {0, 0, 0, Integer.MIN_VALUE}, {0, 0, 0, Integer.MAX_VALUE}, {256, 0, 0, 1}, {0, 256, 0, 1}, {0, 0, 256, 1}, {0, 0, 0, 257}};
        ArcTape x = Tapes.packed(new Packing(1, 1, 1, 2), 4, Tapes.row(0, 1, 2));
        String before = State.shown(x, 4);
        x.add(1, 1);
        for (int[] w : wrong) {
            check.due("pack(" + w[0] + ", " + w[1] + ", " + w[2] + ", " + w[3] + ")", x.pack(w[0], w[1], w[2], w[3]), -1);
        }
        check.due("after refusals", State.shown(x, 4), before);
    }

    @Sentence("Packs the draft with this WINDOW, CHAIN, LEAST and K and answers the number of bits of the stream")
    static void numberOfBits(Check check) {
        ArcTape x = Tapes.graph(4, Tapes.row(0, 1, 2));
        // d = 2: 011; 1 - 0 as 2: 011; 2 - 1 - 1 = 0: 1; then three nodes with d = 0.
        check.due("plain", x.pack(0, 0, 0, 1), 10);
        check.due("stream", Tapes.bits(x, 0, 11), "0110111" + "111" + "-1");
        check.due("a window: one bit more", x.pack(3, 2, 0, 1), 11);
        check.due("K 2: 111 10 for 011 1", x.pack(0, 0, 0, 2), 3 + 3 + 2 + 3);
        check.due("least 2: one interval, 2, 0", x.pack(0, 0, 2, 1), 3 + 3 + 3 + 1 + 3);
        check.due("no arcs", new ArcTape(12).pack(6, 3, 9, 4), 12);
        ArcTape full = Tapes.full(12);
        // Each d is 7 bits; 0 - u, being 0, 1, 3, .., 21, is 1, 3, 5, 5, 7, 7, 7, 7, 9, 9, 9 and 9 bits; 11 bits behind it.
        check.due("all arcs", full.pack(0, 0, 0, 1), 12 * 7 + 78 + 12 * 11);
    }

    @Sentence("answers the number of bits of the stream")
    static void longestStreams(Check check) {
        for (int k = 1; k <= 4; k++) {
            for (int least = 0; least <= 3; least++) {
                Packing packing = new Packing(0, 0, least, k);
                ArcTape x = new ArcTape(12);
                int[] longest = new int[12];
                int bits = 0;
                for (int u = 0; u < 12; u++) {
                    longest[u] = longestSet(packing, u);
                    Tapes.addSet(x, u, longest[u]);
                    bits += packing.of(Tapes.withSet(12, u, longest[u])) - 11;
                }
                check.due(packing + ": every record is as long as can be", packing.of(x), bits);
                check.due(packing + ": offset(12)", x.offset(12), bits);
                check.due(packing + ": the last bit", x.bit(bits - 1) >= 0, true);
                check.due(packing + ": behind it", x.bit(bits), -1);
                for (int u = 0; u < 12; u++) {
                    check.due(packing + ": set of " + u, Tapes.set(x, u), longest[u]);
                }
            }
        }
    }

    private static int longestSet(Packing packing, int u) {
        int longest = 0;
        int most = 0;
        for (int set = 0; set < 1 << 12; set++) {
            int bits = packing.of(Tapes.withSet(12, u, set));
            if (bits > most) {
                most = bits;
                longest = set;
            }
        }
        return longest;
    }

    @Sentence("Scores, hubs and weights stay.")
    static void whatStays(Check check) {
        for (int kind = 0; kind <= 2; kind++) {
            ArcTape x = Tapes.packed(PLAIN, 3, Tapes.row(0, 1), Tapes.row(1, 2));
            x.prefer(2, 5);
            x.start(kind, 700);
            x.step(2);
            String before = State.scores(x, 3);
            x.add(2, 2);
            x.pack(2, 2, 2, 2);
            check.due("kind " + kind, State.scores(x, 3), before);
            x.start(0, 0);
            x.step(1);
            // 1, 1 and 5 of 7.
            check.due("weights: score(0)", x.score(0), 142857142857L);
            check.due("weights: score(2)", x.score(2), 714285714285L);
        }
    }

    @Sentence("The RECORDS of the nodes 0, 1, .. follow each other; a node's OFFSET is the place where its record begins, "
        + "the offset of n the length of the stream.")
    static void offsets(Check check) {
        ArcTape x = Tapes.packed(PLAIN, 4, Tapes.row(0, 1, 2), Tapes.row(2, 2), Tapes.row(3, 0));
        // 011 011 1; 1; 010 1; 010 and 0 - 3 as 5: 00110.
        check.due("stream", Tapes.bits(x, 0, 20), "0110111" + "1" + "0101" + "01000110");
        int[] due = {0, 7, 8, 12, 20};
        for (int u = 0; u <= 4; u++) {
            check.due("offset(" + u + ")", x.offset(u), due[u]);
        }
        check.due("bit(20)", x.bit(20), -1);
    }

    @Sentence("The offset of node u, or for u = n the number of bits of the stream; -1 if u is not 0 .. n.")
    static void offsetOfNone(Check check) {
        for (int n = 1; n <= 12; n++) {
            ArcTape x = Tapes.graph(n, Tapes.row(0, 0));
            int bits = PLAIN.of(x);
            check.due(n + " nodes: offset(0)", x.offset(0), 0);
            check.due(n + " nodes: offset(1)", x.offset(1), 4);
            check.due(n + " nodes: offset(n)", x.offset(n), bits);
            for (int wrong : new int[] {-1, n + 1, n + 2, 14, Integer.MIN_VALUE, Integer.MAX_VALUE}) {
                check.due(n + " nodes: offset(" + wrong + ")", x.offset(wrong), -1);
            }
        }
    }

    @Sentence("The bit at place p, 0 or 1; -1 if the stream has no such place.")
    static void bits(Check check) {
        ArcTape x = Tapes.packed(PLAIN, 4, Tapes.row(0, 1, 2));
        String due = "0110111111";
        for (int p = 0; p < 10; p++) {
            check.due("bit(" + p + ")", x.bit(p), due.charAt(p) - '0');
        }
        for (int wrong : new int[] {-1, 10, 11, 799, 800, Integer.MIN_VALUE, Integer.MAX_VALUE}) {
            check.due("bit(" + wrong + ")", x.bit(wrong), -1);
        }
        x.drop(0, 1);
        x.drop(0, 2);
        check.due("packed shorter", PLAIN.of(x), 4);
        check.due("bit(3)", x.bit(3), 1);
        for (int p = 4; p <= 10; p++) {
            check.due("bit(" + p + ") is gone", x.bit(p), -1);
        }
    }

    @Sentence("pack writes all of it anew from the draft")
    static void writtenAnew(Check check) {
        ArcTape x = Tapes.graph(4, Tapes.row(0, 1, 2));
        PLAIN.of(x);
        for (int p = 0; p < 10; p++) {
            x.flip(p);
        }
        check.due("flipped", Tapes.bits(x, 0, 10), "1001000000");
        PLAIN.of(x);
        check.due("written anew", Tapes.bits(x, 0, 10), "0110111111");
        check.due("list of 0", Tapes.list(x, 0), "1,2");
        check.due("list of 3", Tapes.list(x, 3), "");
    }

    @Sentence("First d in gamma. If d is 0, that is all.")
    static void emptyRecord(Check check) {
        Packing[] packings = {PLAIN, new Packing(6, 3, 0, 1), new Packing(0, 0, 9, 1), new Packing(6, 3, 1, 4)};
        for (Packing packing : packings) {
            ArcTape x = Tapes.packed(packing, 3, Tapes.row(0, 0, 2));
            check.due(packing + ": record of 1", Tapes.record(x, 1), "1");
            check.due(packing + ": record of 2", Tapes.record(x, 2), "1");
        }
    }

    @Sentence("If WINDOW > 0, the REFERENCE r, at most WINDOW and at most u, in unary. (With WINDOW 0, r is 0.)")
    static void window(Check check) {
        for (int far = 1; far <= 7; far++) {
            for (int window = 0; window <= 6; window++) {
                ArcTape x = Tapes.packed(new Packing(window, 3, 0, 1), 12, Tapes.row(1, 0, 3, 5, 7, 9, 11), Tapes.row(1 + far, 0, 3, 5, 7, 9, 11));
                check.due("window " + window + ": reference to " + far + " before", x.reference(1 + far), far <= window ? far : 0);
            }
        }
        ArcTape x = Tapes.graph(12, Tapes.row(0, 0));
        x.pack(0, 3, 0, 1);
        check.due("no r", Tapes.record(x, 0), "010" + "1");
        x.pack(1, 3, 0, 1);
        check.due("r is 0", Tapes.record(x, 0), "010" + "1" + "1");
        x.pack(6, 0, 0, 1);
        check.due("r is 0, whatever the chain", Tapes.record(x, 0), "010" + "1" + "1");
    }

    @Sentence("They fall into RUNS: in turn a longest row of nodes that are in X and a longest row of nodes that are not, beginning with such that are")
    static void rowsInY(Check check) {
        // Neighbours in Y are a row, whatever numbers are between them: 0, 4, 7 copied, 8, 10 left out, 11 copied.
        ArcTape x = Tapes.packed(new Packing(1, 1, 0, 1), 12, Tapes.row(0, 0, 4, 7, 8, 10, 11), Tapes.row(1, 0, 4, 7, 11));
        check.due("record of 1", Tapes.record(x, 1), Codes.gamma(4) + "01" + Codes.gammas(2, 3, 1));
        // What X has between them does not part them either: all of Y is one run, and 5 and 6 are the rest.
        ArcTape y = Tapes.packed(new Packing(1, 1, 0, 1), 12, Tapes.row(0, 0, 4, 7, 8, 10, 11), Tapes.row(1, 0, 4, 5, 6, 7, 8, 10, 11));
        check.due("record of 1", Tapes.record(y, 1), Codes.gamma(8) + "01" + Codes.gamma(0) + Codes.gammas(Codes.signed(4), 0));
    }

    @Sentence("this first run may have no node, if the first of Y is not in X; every other has at least one")
    static void firstRun(Check check) {
        ArcTape x = Tapes.packed(new Packing(1, 1, 0, 1), 12, Tapes.row(0, 0, 2, 4, 6, 8, 10, 11), Tapes.row(1, 2, 4, 6, 8, 10));
        // Runs of 0, 1, 5 and 1, of which three are written: 0, 1 - 1, 5 - 1.
        check.due("record of 1", Tapes.record(x, 1), Codes.gamma(5) + "01" + Codes.gammas(3, 0, 0, 4));
        check.due("list of 1", Tapes.list(x, 1), "2,4,6,8,10");
        ArcTape y = Tapes.packed(new Packing(1, 1, 0, 4), 12, Tapes.row(0, 0, 1, 2, 3, 4, 5, 6, 7, 8, 9, 10, 11), Tapes.row(1, 1, 3, 5, 7, 9, 11));
        // A run of 0, and twelve of 1, the last of which is not written.
        check.due("thirteen runs", Tapes.record(y, 1), Codes.gamma(6) + "01" + Codes.gammas(12, 0, 0, 0, 0, 0, 0, 0, 0, 0, 0, 0, 0));
        check.due("list of 1", Tapes.list(y, 1), "1,3,5,7,9,11");
    }

    @Sentence("The last run is not written.")
    static void lastRun(Check check) {
        ArcTape x = Tapes.packed(new Packing(1, 1, 0, 1), 12, Tapes.row(0, 0, 2, 3, 5, 7, 9, 11), Tapes.row(1, 0, 2, 5, 7, 9, 11));
        check.due("the last is copied", Tapes.record(x, 1), Codes.gamma(6) + "01" + Codes.gammas(2, 2, 0));
        ArcTape y = Tapes.packed(new Packing(1, 1, 0, 1), 12, Tapes.row(0, 0, 2, 5, 7, 9, 11), Tapes.row(1, 0, 2, 5, 7));
        check.due("the last is left out", Tapes.record(y, 1), Codes.gamma(4) + "01" + Codes.gammas(1, 4));
        ArcTape z = Tapes.packed(new Packing(1, 1, 0, 1), 12, Tapes.row(0, 0, 2, 5, 7, 9, 11), Tapes.row(1, 0, 2, 5, 7, 9, 11));
        check.due("the only one", Tapes.record(z, 1), Codes.gamma(6) + "01" + Codes.gamma(0));
    }

    @Sentence("The number of the runs that are written in gamma; then the first one's number of nodes in gamma, "
        + "and of each other one the number of nodes less 1 in gamma.")
    static void lengthsOfRuns(Check check) {
        ArcTape x = Tapes.packed(new Packing(1, 1, 0, 4), 12, Tapes.row(0, 0, 1, 2, 3, 4, 5, 6, 7, 8, 9, 10, 11), Tapes.row(1, 0, 1, 2, 5, 8, 9, 10));
        // 3 copied, 2 left out, 1 copied, 2 left out, 3 copied, 1 left out.
        check.due("record of 1", Tapes.record(x, 1), Codes.gamma(7) + "01" + Codes.gammas(5, 3, 1, 0, 1, 2));
        check.due("list of 1", Tapes.list(x, 1), "0,1,2,5,8,9,10");
    }

    @Sentence("The REST are the nodes of X that are not in Y (with r = 0 all of X). If there are none, that is all.")
    static void rest(Check check) {
        int[] same = Tapes.row(0, 0, 2, 3, 5, 7, 9, 11);
        ArcTape x = Tapes.graph(12, same, Tapes.row(1, 0, 2, 5, 7, 9, 11));
        for (int least = 0; least <= 9; least++) {
            x.pack(1, 1, least, 1);
            check.due("no rest, least " + least, Tapes.record(x, 1), Codes.gamma(6) + "01" + Codes.gammas(2, 2, 0));
            check.due("list of 1", Tapes.list(x, 1), "0,2,5,7,9,11");
        }
        ArcTape y = Tapes.graph(12, same, Tapes.row(1, 0, 2, 3, 5, 7, 8, 9, 11));
        y.pack(1, 1, 0, 1);
        check.due("8 is the rest", Tapes.record(y, 1), Codes.gamma(8) + "01" + Codes.gamma(0) + Codes.gamma(Codes.signed(7)));
        y.pack(1, 1, 1, 1);
        check.due("8 is an interval", Tapes.record(y, 1), Codes.gamma(8) + "01" + Codes.gammas(0, 1, Codes.signed(7), 0));
        y.pack(1, 1, 2, 1);
        check.due("8 is none", Tapes.record(y, 1), Codes.gamma(8) + "01" + Codes.gammas(0, 0) + Codes.gamma(Codes.signed(7)));
    }

    @Sentence("the INTERVALS are the longest rows of consecutive numbers in the rest that have LEAST or more numbers.")
    static void leastOrMore(Check check) {
        for (int least = 1; least <= 9; least++) {
            for (int count = 1; count <= 12; count++) {
                ArcTape x = withRow(12, 0, 0, count);
                x.pack(0, 0, least, 1);
                String due = count >= least ? Codes.gammas(count, 1, 0, count - least) : Codes.gammas(count, 0) + "1".repeat(count);
                check.due("least " + least + ", a row of " + count, Tapes.record(x, 0), due);
                check.due("degree", x.degree(0), count);
            }
        }
    }

    @Sentence("the longest rows of consecutive numbers in the rest")
    static void rowsInTheRest(Check check) {
        // 4, 5 and 6 are a row in X, but 4 and 6 are copied.
        ArcTape x = Tapes.packed(new Packing(1, 1, 2, 1), 12, Tapes.row(0, 0, 2, 4, 6, 8, 10), Tapes.row(1, 0, 2, 4, 5, 6, 8, 10));
        check.due("record of 1", Tapes.record(x, 1), Codes.gamma(7) + "01" + Codes.gammas(0, 0) + Codes.gamma(Codes.signed(4)));
        check.due("list of 1", Tapes.list(x, 1), "0,2,4,5,6,8,10");
        // The last node belongs to a row that ends with it.
        ArcTape y = withRow(12, 11, 8, 4);
        y.pack(0, 0, 4, 1);
        check.due("8 .. 11", Tapes.record(y, 11), Codes.gammas(4, 1, Codes.signed(-3), 0));
    }

    @Sentence("If LEAST > 0")
    static void withoutIntervals(Check check) {
        ArcTape x = withRow(12, 0, 0, 12);
        x.pack(0, 0, 0, 1);
        check.due("least 0", Tapes.record(x, 0), Codes.gamma(12) + "1".repeat(12));
        x.pack(0, 0, 1, 1);
        check.due("least 1", Tapes.record(x, 0), Codes.gammas(12, 1, 0, 11));
    }

    @Sentence("How many there are in gamma")
    static void howManyIntervals(Check check) {
        ArcTape x = Tapes.graph(12, Tapes.row(0, 0, 2, 4, 6, 8, 10));
        x.pack(0, 0, 1, 1);
        check.due("six", Tapes.record(x, 0), Codes.gammas(6, 6, 0, 0, 0, 0, 0, 0, 0, 0, 0, 0, 0, 0));
        check.due("list of 0", Tapes.list(x, 0), "0,2,4,6,8,10");
        x.pack(0, 0, 2, 1);
        check.due("none", Tapes.record(x, 0), Codes.gammas(6, 0, 0, 1, 1, 1, 1, 1));
        check.due("list of 0", Tapes.list(x, 0), "0,2,4,6,8,10");
    }

    @Sentence("its first number a, written in gamma as the number a - u, which may be below 0, for the first interval, "
        + "as a - z - 2 for every other, z being the last number of the interval before; then how many numbers it has less LEAST in gamma.")
    static void intervals(Check check) {
        ArcTape x = Tapes.graph(12, Tapes.row(3, 0, 1, 2, 5, 6, 7, 8));
        x.pack(0, 0, 3, 1);
        check.due("below u", Tapes.record(x, 3), Codes.gammas(7, 2, Codes.signed(-3), 0, 1, 1));
        ArcTape y = Tapes.graph(12, Tapes.row(0, 0, 1, 3, 4));
        y.pack(0, 0, 2, 1);
        check.due("as near as can be", Tapes.record(y, 0), Codes.gammas(4, 2, 0, 0, 0, 0));
        check.due("list of 0", Tapes.list(y, 0), "0,1,3,4");
        ArcTape z = Tapes.graph(12, Tapes.row(11, 0, 11));
        z.pack(0, 0, 1, 1);
        check.due("as far as can be", Tapes.record(z, 11), Codes.gammas(2, 2, Codes.signed(-11), 0, 9, 0));
        check.due("list of 11", Tapes.list(z, 11), "0,11");
    }

    @Sentence("The nodes of the rest that are in no interval (with LEAST 0 all of them), ascending: the first one, v, in zeta as v - u, "
        + "which may be below 0; every other one, v, in zeta as v - w - 1, w being the one before.")
    static void behindTheIntervals(Check check) {
        ArcTape x = Tapes.graph(12, Tapes.row(0, 0, 2, 3, 4, 6));
        x.pack(0, 0, 3, 1);
        // Interval 2 .. 4; 0 - 0, and 6 - 0 - 1, as if the interval were not there.
        check.due("around an interval", Tapes.record(x, 0), Codes.gammas(5, 1, Codes.signed(2), 0, 0, 5));
        ArcTape y = Tapes.graph(8, Tapes.row(3, 0, 1, 2, 5, 7));
        y.pack(0, 0, 2, 2);
        check.due("behind one, K 2", Tapes.record(y, 3), Codes.gammas(5, 1, Codes.signed(-3), 1) + Codes.zeta(Codes.signed(2), 2) + Codes.zeta(1, 2));
        ArcTape z = Tapes.graph(12, Tapes.row(11, 0, 11));
        z.pack(0, 0, 0, 3);
        check.due("below u", Tapes.record(z, 11), Codes.gamma(2) + Codes.zeta(Codes.signed(-11), 3) + Codes.zeta(10, 3));
    }

    @Sentence("The reference is 0, or an r from 1 on for which u - r has successors in the draft")
    static void overEmptyNodes(Check check) {
        ArcTape x = Tapes.packed(new Packing(6, 3, 0, 1), 12, Tapes.row(2, 0, 3, 5, 7, 9, 11), Tapes.row(4, 0, 3, 5, 7, 9, 11));
        check.due("nothing before it", x.reference(2), 0);
        check.due("3 has none, 2 has", x.reference(4), 2);
        x.drop(2, 0);
        x.drop(2, 3);
        x.drop(2, 5);
        x.drop(2, 7);
        x.drop(2, 9);
        x.drop(2, 11);
        x.pack(6, 3, 0, 1);
        check.due("2 has none in the draft now", x.reference(4), 0);
        check.due("list of 4", Tapes.list(x, 4), "0,3,5,7,9,11");
    }

    @Sentence("The reference is 0, or an r from 1 on for which u - r has successors in the draft")
    static void oneSuccessor(Check check) {
        for (int v = 0; v < 12; v++) {
            ArcTape x = Tapes.packed(new Packing(6, 3, 0, 1), 12, Tapes.row(10, v), Tapes.row(11, v));
            // r = 1: 01 1; r = 0: 1, and v - 11 in one bit if it is 0, else in three or more.
            check.due(v + " alone: reference(11)", x.reference(11), v == 11 ? 0 : 1);
            check.due(v + " alone: list of 11", Tapes.list(x, 11), Integer.toString(v));
        }
    }

    @Sentence("its DEPTH is below CHAIN")
    static void chain(Check check) {
        ArcTape x = new ArcTape(12);
        for (int u = 0; u < 6; u++) {
            for (int v : new int[] {0, 3, 5, 7, 9, 11}) {
                x.add(u, v);
            }
        }
        int[][] due = {{0, 0, 0, 0, 0, 0}, {0, 1, 2, 3, 4, 5}, {0, 1, 1, 2, 3, 4}, {0, 1, 1, 1, 2, 3}};
        for (int chain = 0; chain <= 3; chain++) {
            x.pack(6, chain, 0, 1);
            for (int u = 0; u < 6; u++) {
                check.due("chain " + chain + ": reference(" + u + ")", x.reference(u), due[chain][u]);
            }
            check.due("chain " + chain + ": list of 5", Tapes.list(x, 5), "0,3,5,7,9,11");
        }
    }

    @Sentence("whichever gives the record the fewest bits")
    static void fewestBits(Check check) {
        ArcTape x = Tapes.packed(new Packing(6, 3, 0, 1), 12, Tapes.row(0, 0, 3, 5, 7, 9, 11), Tapes.row(1, 0, 3, 5), Tapes.row(2, 0, 3, 5, 7, 9, 11));
        // r = 1: 01, 1, and 7, 9, 11 as 10, 1, 1: 7 + 3 + 3 bits; r = 2: 001 1.
        check.due("the farther is shorter", x.reference(2), 2);
        ArcTape y = Tapes.packed(new Packing(6, 3, 0, 1), 12, Tapes.row(0, 0, 3, 5, 7, 9, 11), Tapes.row(1, 1));
        check.due("none is shorter", Tapes.record(y, 1), "010" + "1" + "1");
        ArcTape z = Tapes.packed(new Packing(6, 3, 0, 1), 12, Tapes.row(0, 1, 2), Tapes.row(1, 1, 2, 3));
        // r = 0: 1, 1 1 1; r = 1: 01, 1, 3 - 1 as 4: 00101.
        check.due("copying would be longer", Tapes.record(z, 1), Codes.gamma(3) + "1" + "111");
        ArcTape v = Tapes.packed(new Packing(1, 1, 0, 1), 3, Tapes.row(0, 0, 2), Tapes.row(1, 0, 2));
        // r = 0: 1 010 010; r = 1: 01 1.
        check.due("copying is shorter", Tapes.record(v, 1), "011" + "01" + "1");
    }

    @Sentence("and the least r among equals.")
    static void equals(Check check) {
        // r = 0: 1, 1 1; r = 1: 01, 1: three bits each behind d.
        ArcTape x = Tapes.packed(new Packing(1, 1, 0, 1), 3, Tapes.row(0, 1, 2), Tapes.row(1, 1, 2));
        check.due("0 and 1 are equal", Tapes.record(x, 1), "011" + "1" + "11");
        // r = 0: 010 1 010; r = 2: 010 001 1: seven bits each.
        ArcTape y = Tapes.packed(new Packing(2, 1, 0, 1), 3, Tapes.row(0, 1), Tapes.row(2, 1));
        check.due("0 and 2 are equal", Tapes.record(y, 2), "010" + "1" + "010");
        // r = 1: 01, all copied, 2 as the rest: 1 1; r = 2: 001, all copied: 1; four bits each behind d.
        ArcTape z = Tapes.packed(new Packing(2, 3, 0, 1), 6, Tapes.row(0, 0, 2, 5), Tapes.row(1, 0, 5), Tapes.row(2, 0, 2, 5));
        check.due("1 and 2 are equal", Tapes.record(z, 2), "00100" + "01" + "1" + "1");
    }

    @Sentence("The depth of a node whose reference is 0, or that has no successors, is 0, "
        + "that of any other 1 + the depth of the node that it refers to.")
    static void depths(Check check) {
        // Node 2 is like none before it, so that its depth is 0 again, and 3 may refer to it though 1 has depth 1.
        ArcTape x = Tapes.packed(new Packing(1, 1, 0, 1), 12, Tapes.row(0, 0, 3, 6, 9), Tapes.row(1, 0, 3, 6, 9), Tapes.row(2, 2, 5, 8, 11),
            Tapes.row(3, 2, 5, 8, 11), Tapes.row(4, 2, 5, 8, 11));
        int[] due = {0, 1, 0, 1, 0};
        for (int u = 0; u < 5; u++) {
            check.due("chain 1: reference(" + u + ")", x.reference(u), due[u]);
        }
        for (int v : new int[] {2, 5, 8, 11}) {
            x.drop(3, v);
        }
        x.pack(1, 1, 0, 1);
        check.due("behind a node without successors", x.reference(4), 0);
        x.pack(2, 1, 0, 1);
        check.due("over it", x.reference(4), 2);
    }

    @Sentence("The depth of a node whose reference is 0, or that has no successors, is 0")
    static void depthsOfEarlierPackings(Check check) {
        int[] same = {0, 3, 5, 7, 9, 11};
        ArcTape x = new ArcTape(12);
        for (int v : same) {
            x.add(0, v);
            x.add(1, v);
            x.add(2, v);
        }
        x.pack(1, 2, 0, 1);
        check.due("chain 2: reference(2)", x.reference(2), 1);
        for (int v : same) {
            x.drop(0, v);
        }
        x.pack(1, 1, 0, 1);
        check.due("1 has depth 0 now", x.reference(1), 0);
        check.due("so 2 may refer to it", x.reference(2), 1);
        // 2 has depth 2 by the first of these packings, and is best without a reference in the second.
        ArcTape y = Tapes.packed(new Packing(2, 3, 0, 1), 12, Tapes.row(0, 0, 3, 6, 9), Tapes.row(1, 0, 3, 6, 9), Tapes.row(2, 0, 3, 6, 9));
        check.due("chain 3: reference(2)", y.reference(2), 1);
        for (int v : new int[] {0, 3, 6, 9}) {
            y.drop(2, v);
        }
        y.add(2, 2);
        y.pack(2, 1, 0, 1);
        check.due("chain 1: record of 2", Tapes.record(y, 2), "010" + "1" + "1");
    }
}
