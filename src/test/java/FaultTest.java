import java.util.function.IntFunction;

/**
 * The faults 1 to 10, and the moment at which each is looked for. Most streams here end with the number that makes the fault,
 * so that a bit read behind it would be fault 1 instead.
 */
public final class FaultTest {
    /** No references and no intervals; zeta with K 1 is gamma. */
    private static final Packing PLAIN = new Packing(0, 0, 0, 1);
    private static final Packing REFERRING = new Packing(6, 3, 0, 1);
    private static final Packing BY_ONE = new Packing(0, 0, 1, 1);
    private static final Packing BY_TWO = new Packing(0, 0, 2, 1);
    private static final Packing ALL = new Packing(6, 3, 2, 1);
    /** What node 0 has where node 1 refers to it. */
    private static final int[] FOUR = Tapes.row(0, 0, 2, 3, 5);

    public static void main(String[] args) {
        Sentences.test(FaultTest.class);
    }

    private static void faulty(Check check, String name, ArcTape x, int u, int number) {
        check.due(name + ": degree(" + u + ")", x.degree(u), -number);
        check.due(name + ": successor(" + u + ", 0)", x.successor(u, 0), -1);
        check.due(name + ": reference(" + u + ")", x.reference(u), -1);
    }

    private static void good(Check check, String name, ArcTape x, int u, String list) {
        check.due(name + ": list of " + u, Tapes.list(x, u), list);
    }

    /** The stream ends with the text, which begins with the record of u. */
    private static void ends(Check check, String name, Packing packing, int u, String text, int number, int[]... rows) {
        faulty(check, name, Tapes.ending(packing, u, text, rows), u, number);
    }

    /** The same, where the number of nodes matters. */
    private static void endsOf(Check check, String name, Packing packing, int n, int u, String text, int number) {
        faulty(check, name, Tapes.ending(packing, n, u, text), u, number);
    }

    /** The same for every number of nodes with which it can be made, and there must be one; an empty text is for none. */
    private static void endsOfSome(Check check, String name, Packing packing, int u, IntFunction<String> text, int number) {
        int made = 0;
        for (int n = u + 1; n <= 12; n++) {
            ArcTape x = Tapes.endingOrNull(packing, n, u, text.apply(n));
            if (x != null) {
                faulty(check, name + ", n is " + n, x, u, number);
                made++;
            }
        }
        check.due(name + " was made", made > 0, true);
    }

    /** The record of u is the text, and the nodes behind it have no successors. */
    private static ArcTape exactly(Packing packing, int n, int u, String text, int[]... rows) {
        return Tapes.ending(packing, n, u, text + "1".repeat(n - 1 - u), rows);
    }

    @Sentence("a bit is to be read behind the last one of the stream")
    static void behindTheStream(Check check) {
        ends(check, "in the unary part of d", PLAIN, 0, "0", 1);
        ends(check, "behind the unary part of d", PLAIN, 0, "01", 1);
        ends(check, "in the bits of d", PLAIN, 0, "0001" + "11", 1);
        ends(check, "r", REFERRING, 0, Codes.gamma(1), 1);
        ends(check, "in r", REFERRING, 3, Codes.gamma(1) + "00", 1);
        ends(check, "the number of runs", REFERRING, 1, Codes.gamma(1) + "01", 1, FOUR);
        ends(check, "the first run", REFERRING, 1, Codes.gamma(1) + "01" + Codes.gamma(1), 1, FOUR);
        ends(check, "another run", REFERRING, 1, Codes.gamma(1) + "01" + Codes.gammas(2, 0), 1, FOUR);
        ends(check, "the rest, behind the runs", REFERRING, 1, Codes.gamma(1) + "01" + Codes.gammas(1, 0), 1, FOUR);
        ends(check, "the number of intervals", BY_ONE, 0, Codes.gamma(1), 1);
        ends(check, "the first number of an interval", BY_ONE, 0, Codes.gammas(1, 1), 1);
        ends(check, "the length of an interval", BY_ONE, 0, Codes.gammas(1, 1, 0), 1);
        ends(check, "another interval", BY_ONE, 0, Codes.gammas(2, 2, 0, 0), 1);
        ends(check, "the length of another interval", BY_ONE, 0, Codes.gammas(2, 2, 0, 0, 0), 1);
        ends(check, "a node behind the intervals", BY_ONE, 0, Codes.gammas(2, 1, 0, 0), 1);
        ends(check, "a node where there is no interval", BY_ONE, 0, Codes.gammas(1, 0), 1);
        ends(check, "the first node", PLAIN, 0, Codes.gamma(1), 1);
        ends(check, "another node", PLAIN, 0, Codes.gammas(2, 0), 1);
        ends(check, "in zeta", new Packing(0, 0, 0, 4), 0, Codes.gamma(1) + "1" + "00", 1);
        ends(check, "the one bit more of zeta", new Packing(0, 0, 0, 2), 0, Codes.gamma(1) + "1" + "1", 1);
    }

    @Sentence("a bit is to be read behind the last one of the stream")
    static void theLastBit(Check check) {
        for (int n = 1; n <= 12; n++) {
            good(check, "the last bit is read, " + n + " nodes", new ArcTape(n), n - 1, "");
            ArcTape x = new ArcTape(n);
            x.flip(n - 1);
            faulty(check, "none behind it, " + n + " nodes", x, n - 1, 1);
        }
        good(check, "a long last record", exactly(PLAIN, 12, 11, Codes.gammas(2, Codes.signed(-11), 10)), 11, "0,11");
        // Bits behind the record, but before the end of the stream, can be read: it only ends at another place.
        ArcTape x = new ArcTape(4);
        Tapes.overwrite(x, 0, "0101");
        faulty(check, "the last bit is read by the first record", x, 0, 10);
        Tapes.overwrite(x, 0, "0100");
        faulty(check, "one more is read", x, 0, 1);
    }

    private static void zeros(Check check, String name, Packing packing, int u, String before, int[]... rows) {
        ends(check, name + ", seven zeros", packing, u, before + "0000000", 2, rows);
        ends(check, name + ", six zeros", packing, u, before + "000000", 1, rows);
    }

    @Sentence("the seventh 0 of a number in unary, or of the unary part of one in gamma or zeta, has been read")
    static void sevenZeros(Check check) {
        zeros(check, "d", PLAIN, 0, "");
        zeros(check, "r", REFERRING, 6, Codes.gamma(1));
        zeros(check, "r where no node is before", REFERRING, 0, Codes.gamma(1));
        zeros(check, "the number of runs", REFERRING, 1, Codes.gamma(1) + "01", FOUR);
        zeros(check, "the first run", REFERRING, 1, Codes.gamma(1) + "01" + Codes.gamma(1), FOUR);
        zeros(check, "another run", REFERRING, 1, Codes.gamma(1) + "01" + Codes.gammas(2, 0), FOUR);
        zeros(check, "the number of intervals", BY_ONE, 0, Codes.gamma(1));
        zeros(check, "the first number of an interval", BY_ONE, 0, Codes.gammas(1, 1));
        zeros(check, "the length of an interval", BY_ONE, 0, Codes.gammas(1, 1, 0));
        zeros(check, "another interval", BY_ONE, 0, Codes.gammas(2, 2, 0, 0));
        zeros(check, "the length of another interval", BY_ONE, 0, Codes.gammas(2, 2, 0, 0, 0));
        for (int k = 1; k <= 4; k++) {
            zeros(check, "the first node, K " + k, new Packing(0, 0, 0, k), 0, Codes.gamma(1));
            zeros(check, "another node, K " + k, new Packing(0, 0, 0, k), 0, Codes.gamma(2) + Codes.zeta(0, k));
        }
    }

    @Sentence("the seventh 0 of a number in unary, or of the unary part of one in gamma or zeta, has been read")
    static void sixZeros(Check check) {
        String six = "0000001" + "000000";
        ends(check, "d is 63", PLAIN, 0, six, 3);
        ends(check, "63 runs, the first too long", REFERRING, 1, Codes.gamma(1) + "01" + six + Codes.gamma(5), 6, FOUR);
        ends(check, "a run of 63", REFERRING, 1, Codes.gamma(1) + "01" + Codes.gamma(1) + six, 6, FOUR);
        ends(check, "63 intervals, the first below 0", BY_ONE, 0, Codes.gamma(1) + six + Codes.gamma(1), 7);
        ends(check, "an interval from -32 on", BY_ONE, 0, Codes.gammas(1, 1) + six, 7);
        ends(check, "an interval of 64", BY_ONE, 0, Codes.gammas(1, 1, 0) + six, 7);
        ends(check, "a node -32", PLAIN, 0, Codes.gamma(1) + six, 8);
        ends(check, "a node 64", PLAIN, 0, Codes.gammas(2, 0) + six, 8);
        ArcTape x = Tapes.packed(new Packing(6, 1, 0, 1), 12, Tapes.row(0, 0, 3, 6, 9), Tapes.row(6, 0, 3, 6, 9));
        check.due("r is 6", Tapes.record(x, 6), Codes.gamma(4) + "0000001" + "1");
        good(check, "r is 6", x, 6, "0,3,6,9");
        // Seven zeros in a row are no fault where they belong to two numbers.
        ArcTape y = Tapes.packed(PLAIN, 12, Tapes.row(0, 0, 8, 9, 10));
        ArcTape z = exactly(PLAIN, 12, 4, Codes.gammas(3, Codes.signed(-4), 7, 0));
        good(check, "zeros of two numbers", z, 4, "0,8,9");
        check.due("as many zeros", Tapes.bits(z, z.offset(4) + 5, z.offset(5)), "0001000" + "0001000" + "1");
        good(check, "zeros of a number and of the next", y, 0, "0,8,9,10");
    }

    @Sentence("d is more than n")
    static void tooManySuccessors(Check check) {
        for (int n = 1; n <= 12; n++) {
            ArcTape x = new ArcTape(n);
            for (int v = 0; v < n; v++) {
                x.add(0, v);
            }
            PLAIN.of(x);
            check.due(n + " of " + n + ": record of 0", Tapes.record(x, 0), Codes.gamma(n) + "1".repeat(n));
            check.due(n + " of " + n + ": degree(0)", x.degree(0), n);
            Tapes.overwrite(x, 0, Codes.gamma(n + 1));
            faulty(check, n + 1 + " of " + n, x, 0, 3);
        }
        endsOf(check, "6 of 5, before another bit", PLAIN, 5, 0, Codes.gamma(6), 3);
        endsOf(check, "6 of 5, before r", REFERRING, 5, 0, Codes.gamma(6), 3);
        endsOf(check, "6 of 5, before the intervals", BY_ONE, 5, 0, Codes.gamma(6), 3);
        endsOf(check, "5 of 5, another bit", PLAIN, 5, 0, Codes.gamma(5), 1);
        endsOf(check, "13 of 12, before another bit", PLAIN, 12, 5, Codes.gamma(13), 3);
        endsOf(check, "12 of 12, another bit", PLAIN, 12, 5, Codes.gamma(12), 1);
        endsOf(check, "126 of 12", PLAIN, 12, 3, "0000001" + "111111", 3);
    }

    @Sentence("r is more than WINDOW")
    static void moreThanTheWindow(Check check) {
        for (int window = 1; window <= 5; window++) {
            Packing packing = new Packing(window, 3, 0, 1);
            ends(check, "window " + window, packing, 7, Codes.gamma(1) + Codes.unary(window + 1), 4);
            ends(check, "window " + window + ", r is 6", packing, 7, Codes.gamma(1) + Codes.unary(6), 4);
            ends(check, "window " + window + ", r is the window", packing, 7, Codes.gamma(1) + Codes.unary(window), 1);
        }
        ends(check, "window 6, r is 6", REFERRING, 7, Codes.gamma(1) + Codes.unary(6), 1);
        // With no window no r is read: 001 is no reference, but begins a node.
        ends(check, "window 0", PLAIN, 7, Codes.gamma(1) + "001", 1);
    }

    @Sentence("r is more than WINDOW or more than u")
    static void moreThanTheNode(Check check) {
        for (int u = 0; u <= 5; u++) {
            ends(check, "node " + u + ", one too far", REFERRING, u, Codes.gamma(1) + Codes.unary(u + 1), 4);
            ends(check, "node " + u + ", r is 6", REFERRING, u, Codes.gamma(1) + Codes.unary(6), 4);
            ends(check, "node " + u + ", r is u", REFERRING, u, Codes.gamma(1) + Codes.unary(u), 1);
        }
    }

    @Sentence("r > 0, and the record of u - r is faulty")
    static void faultyReference(Check check) {
        ArcTape x = Tapes.packed(new Packing(2, 3, 0, 1), 12, Tapes.row(0, 0, 3, 6, 9), Tapes.row(1, 0, 3, 6, 9), Tapes.row(2, 0, 3, 6, 9),
            Tapes.row(3, 1), Tapes.row(4, 4));
        check.due("record of 2", Tapes.record(x, 2), Codes.gamma(4) + "01" + "1");
        good(check, "all is well", x, 2, "0,3,6,9");
        // d of node 0 becomes 0, and its record ends too early.
        Tapes.overwrite(x, 0, "1");
        faulty(check, "the first", x, 0, 10);
        faulty(check, "the one that refers to it", x, 1, 5);
        faulty(check, "the one that refers to that one", x, 2, 5);
        good(check, "one with r = 0 behind a faulty one", x, 3, "1");
        good(check, "one behind that", x, 4, "4");
        Tapes.overwrite(x, 0, Codes.gamma(4));
        good(check, "all is well again", x, 0, "0,3,6,9");
        good(check, "all is well again", x, 1, "0,3,6,9");
        good(check, "all is well again", x, 2, "0,3,6,9");
    }

    @Sentence("r > 0, and the record of u - r is faulty")
    static void faultyReferenceAtOnce(Check check) {
        // The stream ends with r. Node 0 is flipped to be faulty, and the text does not begin before node 1.
        ArcTape x = Tapes.ending(REFERRING, 1, Codes.gamma(1) + "01", FOUR);
        faulty(check, "node 0 is good", x, 1, 1);
        Tapes.overwrite(x, 0, "1");
        faulty(check, "node 0", x, 0, 10);
        faulty(check, "before another bit", x, 1, 5);
        ArcTape y = Tapes.ending(REFERRING, 1, Codes.gamma(1) + "1", Tapes.row(0, 0, 2, 3));
        Tapes.overwrite(y, 0, "1");
        faulty(check, "r is 0", y, 1, 1);
    }

    @Sentence("or the depth of u - r is CHAIN or more")
    static void tooDeep(Check check) {
        int[][] rows = new int[5][];
        for (int u = 0; u < 5; u++) {
            rows[u] = Tapes.row(u, 0, 2, 3, 5);
        }
        for (int chain = 1; chain <= 3; chain++) {
            // With a window of 1 the depths are 0, 1, .., chain, and then 0 again.
            Packing packing = new Packing(1, chain, 0, 1);
            int[][] before = new int[chain + 1][];
            System.arraycopy(rows, 0, before, 0, chain + 1);
            String end = Codes.gamma(1) + "01";
            ends(check, "chain " + chain + ", depth " + chain, packing, chain + 1, end, 5, before);
            int[][] fewer = new int[chain][];
            System.arraycopy(rows, 0, fewer, 0, chain);
            ends(check, "chain " + chain + ", depth " + (chain - 1), packing, chain, end, 1, fewer);
        }
        for (int r = 1; r <= 6; r++) {
            ends(check, "chain 0, r is " + r, new Packing(6, 0, 0, 1), 6, Codes.gamma(1) + Codes.unary(r), 5);
        }
        ends(check, "chain 0, r is 0", new Packing(6, 0, 0, 1), 6, Codes.gamma(1) + "1", 1);
    }

    @Sentence("or the depth of u - r is CHAIN or more")
    static void deeperThanTheChain(Check check) {
        // Four alike with chain 3: depths 0, 1, 2, 3. The fifth, with r = 1, would have 4.
        ArcTape x = Tapes.packed(new Packing(6, 3, 0, 1), 12, Tapes.row(0, 0, 3, 6, 9), Tapes.row(1, 0, 3, 6, 9), Tapes.row(2, 0, 3, 6, 9),
            Tapes.row(3, 0, 3, 6, 9), Tapes.row(4, 0, 3, 6, 9));
        check.due("record of 4", Tapes.record(x, 4), Codes.gamma(4) + "001" + "1");
        Tapes.overwrite(x, x.offset(4), Codes.gamma(4) + "01" + "1");
        faulty(check, "depth 3", x, 4, 5);
        Tapes.overwrite(x, x.offset(4), Codes.gamma(4) + "001" + "1");
        good(check, "depth 2", x, 4, "0,3,6,9");
    }

    @Sentence("the runs written have together more nodes than Y (looked for after each run)")
    static void moreThanThereAre(Check check) {
        String begin = Codes.gamma(4) + "01";
        good(check, "one of 4 of 4", exactly(REFERRING, 12, 1, begin + Codes.gammas(1, 4), FOUR), 1, "0,2,3,5");
        ends(check, "one of 5 of 4", REFERRING, 1, begin + Codes.gammas(1, 5), 6, FOUR);
        ends(check, "the first of two, 5 of 4", REFERRING, 1, begin + Codes.gammas(2, 5), 6, FOUR);
        good(check, "two of 3 and 1 of 4", exactly(REFERRING, 12, 1, Codes.gamma(3) + "01" + Codes.gammas(2, 3, 0), FOUR), 1, "0,2,3");
        ends(check, "two of 3 and 2 of 4", REFERRING, 1, begin + Codes.gammas(2, 3, 1), 6, FOUR);
        ends(check, "two of 4 and 1 of 4", REFERRING, 1, begin + Codes.gammas(2, 4, 0), 6, FOUR);
        ends(check, "the second of three, 0 and 5 of 4", REFERRING, 1, begin + Codes.gammas(3, 0, 4), 6, FOUR);
        ends(check, "the third of four, 1, 2 and 2 of 4", REFERRING, 1, begin + Codes.gammas(4, 1, 1, 1), 6, FOUR);
        ends(check, "a run of 0 of none", REFERRING, 1, begin + Codes.gammas(1, 0), 1);
        ends(check, "a run of 1 of none", REFERRING, 1, begin + Codes.gammas(1, 1), 6);
        ends(check, "another run of none", REFERRING, 1, begin + Codes.gammas(2, 0, 0), 6);
        ends(check, "a run of 126", REFERRING, 1, begin + Codes.gamma(1) + "0000001" + "111111", 6, FOUR);
    }

    @Sentence("or, when all of them are read, more than d nodes are copied")
    static void moreCopiedThanDue(Check check) {
        ends(check, "all four copied, d is 3", REFERRING, 1, Codes.gamma(3) + "01" + Codes.gamma(0), 6, FOUR);
        good(check, "all four copied, d is 4", exactly(REFERRING, 12, 1, Codes.gamma(4) + "01" + Codes.gamma(0), FOUR), 1, "0,2,3,5");
        ends(check, "all four copied, d is 5", REFERRING, 1, Codes.gamma(5) + "01" + Codes.gamma(0), 1, FOUR);
        ends(check, "one of 3, d is 2", REFERRING, 1, Codes.gamma(2) + "01" + Codes.gammas(1, 3), 6, FOUR);
        good(check, "one of 3, d is 3", exactly(REFERRING, 12, 1, Codes.gamma(3) + "01" + Codes.gammas(1, 3), FOUR), 1, "0,2,3");
        // 0 copied, 2 left out, 3 and 5 copied behind them.
        ends(check, "1, and 2 behind the runs, d is 2", REFERRING, 1, Codes.gamma(2) + "01" + Codes.gammas(2, 1, 0), 6, FOUR);
        ends(check, "1, 1 left out, 1, d is 1", REFERRING, 1, Codes.gamma(1) + "01" + Codes.gammas(3, 1, 0, 0), 6, FOUR);
        ends(check, "before the intervals", ALL, 1, Codes.gamma(3) + "01" + Codes.gamma(0), 6, FOUR);
    }

    @Sentence("when all of them are read")
    static void copiedNotLookedForBefore(Check check) {
        // The first run alone copies more than d, but the second is to be read.
        ends(check, "the stream ends", REFERRING, 1, Codes.gamma(1) + "01" + Codes.gammas(2, 3), 1, FOUR);
        ends(check, "seven zeros", REFERRING, 1, Codes.gamma(1) + "01" + Codes.gammas(2, 3) + "0000000", 2, FOUR);
        ends(check, "and now it is read", REFERRING, 1, Codes.gamma(1) + "01" + Codes.gammas(2, 3, 0), 6, FOUR);
    }

    @Sentence("the first number of an interval is not 0 .. n - 1 (looked for before its length is read)")
    static void firstOfAnInterval(Check check) {
        ends(check, "-1 from 0", BY_ONE, 0, Codes.gammas(1, 1, Codes.signed(-1)), 7);
        ends(check, "0 from 0", BY_ONE, 0, Codes.gammas(1, 1, 0), 1);
        ends(check, "-1 from 3", BY_ONE, 3, Codes.gammas(1, 1, Codes.signed(-4)), 7);
        ends(check, "0 from 3", BY_ONE, 3, Codes.gammas(1, 1, Codes.signed(-3)), 1);
        endsOfSome(check, "n from 3", BY_ONE, 3, n -> Codes.gammas(1, 1, Codes.signed(n - 3)), 7);
        endsOfSome(check, "n - 1 from 3", BY_ONE, 3, n -> Codes.gammas(1, 1, Codes.signed(n - 4)), 1);
        endsOf(check, "n from n - 1", BY_ONE, 12, 11, Codes.gammas(1, 1, Codes.signed(1), 0), 7);
        // The one before is 3 alone, so that z + 2 is 5.
        endsOfSome(check, "another one: n", BY_ONE, 3, n -> n < 6 ? "" : Codes.gammas(2, 2, 0, 0, n - 5), 7);
        endsOfSome(check, "another one: n - 1", BY_ONE, 3, n -> n < 6 ? "" : Codes.gammas(2, 2, 0, 0, n - 6), 1);
        good(check, "0 alone", exactly(BY_ONE, 8, 3, Codes.gammas(1, 1, Codes.signed(-3), 0)), 3, "0");
        good(check, "n - 1 alone", exactly(BY_ONE, 8, 3, Codes.gammas(1, 1, Codes.signed(4), 0)), 3, "7");
        good(check, "n - 1 as another one", exactly(BY_ONE, 8, 3, Codes.gammas(2, 2, Codes.signed(2), 0, 0, 0)), 3, "5,7");
    }

    @Sentence("its last one is more than n - 1")
    static void lastOfAnInterval(Check check) {
        good(check, "5 .. 7 of 8", exactly(BY_TWO, 8, 3, Codes.gammas(3, 1, Codes.signed(2), 1)), 3, "5,6,7");
        // d leaves room enough for all of them.
        endsOf(check, "5 .. 8 of 8", BY_TWO, 8, 3, Codes.gammas(8, 1, Codes.signed(2), 2), 7);
        endsOf(check, "5 .. 7 of 8, another bit", BY_TWO, 8, 3, Codes.gammas(8, 1, Codes.signed(2), 1), 1);
        endsOf(check, "7 and 8 of 8", BY_TWO, 8, 3, Codes.gammas(8, 1, Codes.signed(4), 0), 7);
        endsOf(check, "the first of two", BY_TWO, 8, 3, Codes.gammas(8, 2, Codes.signed(4), 0), 7);
        endsOf(check, "the second of two, 6 .. 7", BY_TWO, 8, 3, Codes.gammas(8, 2, Codes.signed(-1), 0, 1, 0), 1);
        endsOf(check, "the second of two, 6 .. 8", BY_TWO, 8, 3, Codes.gammas(8, 2, Codes.signed(-1), 0, 1, 1), 7);
        // No bit behind it is read, and so no node.
        endsOf(check, "0 .. 12 of 12", BY_TWO, 12, 0, Codes.gammas(12, 1, 0, 11), 7);
        check.due("0 .. 11 of 12", exactly(BY_TWO, 12, 0, Codes.gammas(12, 1, 0, 10)).degree(0), 12);
    }

    @Sentence("the intervals have together more numbers than there must be in the rest (d less the number copied) (both looked for after each interval)")
    static void moreThanTheRest(Check check) {
        good(check, "3 of 3", exactly(BY_TWO, 12, 0, Codes.gammas(3, 1, 0, 1)), 0, "0,1,2");
        ends(check, "4 of 3", BY_TWO, 0, Codes.gammas(3, 1, 0, 2), 7);
        ends(check, "2 of 1, where the least is 2", BY_TWO, 0, Codes.gammas(1, 1, 0, 0), 7);
        ends(check, "the first of two, 4 of 3", BY_TWO, 0, Codes.gammas(3, 2, 0, 2), 7);
        good(check, "2 and 2 of 4", exactly(BY_TWO, 12, 0, Codes.gammas(4, 2, 0, 0, 0, 0)), 0, "0,1,3,4");
        ends(check, "2 and 2 of 3", BY_TWO, 0, Codes.gammas(3, 2, 0, 0, 0, 0), 7);
        ends(check, "2 and 2 of 2", BY_TWO, 0, Codes.gammas(2, 2, 0, 0, 0, 0), 7);
        ends(check, "2 of 2, and another to be read", BY_TWO, 0, Codes.gammas(2, 2, 0, 0), 1);
        ends(check, "2, 2 and 2 of 5", BY_TWO, 0, Codes.gammas(5, 3, 0, 0, 0, 0, 0, 0), 7);
        good(check, "with 4 copied, 2 of 6", exactly(ALL, 12, 1, Codes.gamma(6) + "01" + Codes.gammas(0, 1, Codes.signed(5), 0), FOUR), 1, "0,2,3,5,6,7");
        ends(check, "with 4 copied, 2 of 5", ALL, 1, Codes.gamma(5) + "01" + Codes.gammas(0, 1, Codes.signed(5), 0), 7, FOUR);
        ends(check, "with 4 copied, 3 of 6", ALL, 1, Codes.gamma(6) + "01" + Codes.gammas(0, 1, Codes.signed(5), 1), 7, FOUR);
    }

    @Sentence("a node behind the intervals is not 0 .. n - 1")
    static void nodesOutOfRange(Check check) {
        good(check, "0 from 3", exactly(PLAIN, 8, 3, Codes.gammas(1, Codes.signed(-3))), 3, "0");
        endsOf(check, "-1 from 3", PLAIN, 8, 3, Codes.gammas(1, Codes.signed(-4)), 8);
        endsOf(check, "-1 from 3, before another", PLAIN, 8, 3, Codes.gammas(2, Codes.signed(-4)), 8);
        good(check, "n - 1 from 3", exactly(PLAIN, 8, 3, Codes.gammas(1, Codes.signed(4))), 3, "7");
        endsOf(check, "n from 3", PLAIN, 8, 3, Codes.gammas(1, Codes.signed(5)), 8);
        endsOf(check, "n from 3, before another", PLAIN, 8, 3, Codes.gammas(2, Codes.signed(5)), 8);
        good(check, "n - 1 behind 5", exactly(PLAIN, 8, 3, Codes.gammas(2, Codes.signed(2), 1)), 3, "5,7");
        endsOf(check, "n behind 5", PLAIN, 8, 3, Codes.gammas(2, Codes.signed(2), 2), 8);
        endsOf(check, "n behind n - 1", PLAIN, 8, 3, Codes.gammas(2, Codes.signed(4), 0), 8);
        endsOf(check, "n behind n - 1, before another", PLAIN, 8, 3, Codes.gammas(3, Codes.signed(4), 0), 8);
        endsOf(check, "-1 behind an interval", BY_TWO, 8, 3, Codes.gammas(3, 1, Codes.signed(-3), 0, Codes.signed(-4)), 8);
        ends(check, "-1 behind what is copied", REFERRING, 1, Codes.gamma(5) + "01" + Codes.gammas(0, Codes.signed(-2)), 8, FOUR);
    }

    @Sentence("a node behind the intervals is not 0 .. n - 1")
    static void nodesFarOut(Check check) {
        for (int k = 1; k <= 4; k++) {
            Packing packing = new Packing(0, 0, 0, k);
            String most = "0000001" + "1".repeat(6 * k + k - 1) + (k == 1 ? "" : "1");
            String even = most.substring(0, most.length() - 1) + "0";
            ends(check, "K " + k + ", the first, far above", packing, 5, Codes.gamma(1) + most, 8);
            ends(check, "K " + k + ", the first, far below", packing, 5, Codes.gamma(1) + even, 8);
            ends(check, "K " + k + ", another, far above", packing, 5, Codes.gamma(2) + Codes.zeta(0, k) + most, 8);
        }
    }

    @Sentence("(there are as many of them as the rest has more than the intervals)")
    static void howManyNodes(Check check) {
        good(check, "none", exactly(BY_TWO, 12, 0, Codes.gammas(2, 1, 0, 0)), 0, "0,1");
        good(check, "one", exactly(BY_TWO, 12, 0, Codes.gammas(3, 1, 0, 0, Codes.signed(5))), 0, "0,1,5");
        good(check, "two", exactly(BY_TWO, 12, 0, Codes.gammas(4, 1, 0, 0, Codes.signed(5), 0)), 0, "0,1,5,6");
        good(check, "all", exactly(BY_TWO, 12, 0, Codes.gammas(3, 0, Codes.signed(1), 0, 0)), 0, "1,2,3");
        good(check, "one, with two copied", exactly(REFERRING, 12, 1, Codes.gamma(3) + "01" + Codes.gammas(1, 2, Codes.signed(3)), FOUR), 1, "0,2,4");
        good(check, "none, with four copied", exactly(ALL, 12, 1, Codes.gamma(4) + "01" + Codes.gamma(0), FOUR), 1, "0,2,3,5");
        good(check, "one, with four copied and no interval", exactly(ALL, 12, 1, Codes.gamma(5) + "01" + Codes.gammas(0, 0, 0), FOUR), 1, "0,1,2,3,5");
    }

    @Sentence("when all is read: a node comes twice (as copied, in an interval, or behind them)")
    static void twice(Check check) {
        // Each of these ends where it must, so that nothing else is wrong with it.
        faulty(check, "copied and in an interval, its first",
            exactly(ALL, 12, 1, Codes.gamma(6) + "01" + Codes.gammas(0, 1, Codes.signed(-1), 0), FOUR), 1, 9);
        faulty(check, "copied and in an interval, its last",
            exactly(ALL, 12, 1, Codes.gamma(6) + "01" + Codes.gammas(0, 1, Codes.signed(0), 0), FOUR), 1, 9);
        good(check, "copied and an interval just behind",
            exactly(ALL, 12, 1, Codes.gamma(6) + "01" + Codes.gammas(0, 1, Codes.signed(5), 0), FOUR), 1, "0,2,3,5,6,7");
        faulty(check, "copied and behind", exactly(REFERRING, 12, 1, Codes.gamma(5) + "01" + Codes.gammas(0, Codes.signed(2)), FOUR), 1, 9);
        good(check, "left out and behind", exactly(REFERRING, 12, 1, Codes.gamma(4) + "01" + Codes.gammas(1, 3, Codes.signed(4)), FOUR), 1, "0,2,3,5");
        faulty(check, "in an interval, its first, and behind", exactly(BY_TWO, 12, 0, Codes.gammas(3, 1, Codes.signed(1), 0, Codes.signed(1))), 0, 9);
        faulty(check, "in an interval, its last, and behind", exactly(BY_TWO, 12, 0, Codes.gammas(3, 1, Codes.signed(1), 0, Codes.signed(2))), 0, 9);
        good(check, "just before an interval", exactly(BY_TWO, 12, 0, Codes.gammas(3, 1, Codes.signed(1), 0, 0)), 0, "0,1,2");
        good(check, "just behind an interval", exactly(BY_TWO, 12, 0, Codes.gammas(3, 1, Codes.signed(1), 0, Codes.signed(3))), 0, "1,2,3");
    }

    @Sentence("when all is read: a node comes twice")
    static void twiceNotLookedForBefore(Check check) {
        ends(check, "in an interval and behind, then the end", BY_TWO, 0, Codes.gammas(4, 1, 0, 0, 0), 1);
        ends(check, "in an interval and behind, then seven zeros", BY_TWO, 0, Codes.gammas(4, 1, 0, 0, 0) + "0000000", 2);
        endsOf(check, "in an interval and behind, then n", BY_TWO, 12, 0, Codes.gammas(4, 1, 0, 0, 0, 11), 8);
        ends(check, "copied and in an interval, then another too long", ALL, 1, Codes.gamma(7) + "01" + Codes.gammas(0, 2, Codes.signed(-1), 0, 0, 0), 7, FOUR);
        ends(check, "copied and behind, then the end", REFERRING, 1, Codes.gamma(6) + "01" + Codes.gammas(0, Codes.signed(-1)), 1, FOUR);
    }

    @Sentence("when all is read: it ended at another place than the offset of u + 1")
    static void otherPlace(Check check) {
        ArcTape x = Tapes.packed(PLAIN, 3, Tapes.row(0, 1), Tapes.row(1, 1), Tapes.row(2, 2));
        check.due("stream", Tapes.bits(x, 0, 14), "010011" + "0101" + "0101");
        Tapes.overwrite(x, 0, "1");
        faulty(check, "d is 0, too early", x, 0, 10);
        Tapes.overwrite(x, 0, "0101");
        faulty(check, "two bits too early", x, 0, 10);
        Tapes.overwrite(x, 0, "010011");
        good(check, "where it must", x, 0, "1");
        Tapes.overwrite(x, 6, "010" + "00110");
        faulty(check, "too late, at the end of the stream: 5 - 1, below 0", x, 1, 8);
        Tapes.overwrite(x, 6, "011" + "1" + "1" + "101");
        faulty(check, "one bit too late", x, 1, 10);
        Tapes.overwrite(x, 6, "0101" + "1101");
        good(check, "where it must", x, 1, "1");
        faulty(check, "the last one, too early for the end of the stream", x, 2, 10);
        Tapes.overwrite(x, 10, "0101");
        good(check, "the last one, where it must", x, 2, "2");
        ArcTape y = new ArcTape(4);
        Tapes.overwrite(y, 0, "0101");
        faulty(check, "three bits too late, at the end of the stream", y, 0, 10);
    }

    @Sentence("The record is FAULTY with the first fault that comes up, of several at the same moment the one with the least number")
    static void leastNumber(Check check) {
        // 4 and 5: the window is less than r, and u - r is faulty.
        ArcTape x = Tapes.ending(new Packing(1, 3, 0, 1), 12, 2, Codes.gamma(1) + "001" + "1111", Tapes.row(0, 0, 3, 6, 9));
        faulty(check, "r is more than the window", x, 2, 4);
        Tapes.overwrite(x, 0, "1");
        faulty(check, "u - r", x, 0, 10);
        faulty(check, "4 before 5", x, 2, 4);
        ends(check, "4 before 5, chain 0", new Packing(1, 0, 0, 1), 5, Codes.gamma(1) + "001", 4);
        // 9 and 10: a node comes twice, and the record ends too early or too late.
        ArcTape y = Tapes.packed(BY_TWO, 6, Tapes.row(1, 0, 1, 3));
        check.due("record of 1", Tapes.record(y, 1), Codes.gammas(3, 1, Codes.signed(-1), 0, Codes.signed(2)));
        Tapes.overwrite(y, y.offset(1), Codes.gammas(3, 1, Codes.signed(-1), 0, Codes.signed(0)));
        faulty(check, "9 before 10, too early", y, 1, 9);
        Tapes.overwrite(y, y.offset(1), Codes.gammas(3, 1, Codes.signed(-1), 0, Codes.signed(1)));
        faulty(check, "10 alone", y, 1, 10);
        ArcTape z = Tapes.packed(BY_TWO, 6, Tapes.row(0, 0, 1));
        Tapes.overwrite(z, 0, Codes.gammas(3, 1, 0, 0, 0));
        faulty(check, "9 before 10, too late", z, 0, 9);
    }

    @Sentence("The record is FAULTY with the first fault that comes up")
    static void firstFault(Check check) {
        endsOf(check, "3 before seven zeros", PLAIN, 12, 1, Codes.gamma(13) + "0000000", 3);
        ends(check, "2 in d, before 3", PLAIN, 0, "0000000" + "1", 2);
        ends(check, "3 before 4", REFERRING, 0, Codes.gamma(13) + "01", 3);
        ends(check, "4 before seven zeros", REFERRING, 0, Codes.gamma(1) + "01" + "0000000", 4);
        ends(check, "6 before seven zeros", REFERRING, 1, Codes.gamma(4) + "01" + Codes.gammas(1, 5) + "0000000", 6, FOUR);
        ends(check, "7 before seven zeros", BY_TWO, 0, Codes.gammas(2, 1, 0, 1) + "0000000", 7);
        ends(check, "7 before 8", BY_TWO, 0, Codes.gammas(3, 1, Codes.signed(-1), 0, Codes.signed(-1)), 7);
        ends(check, "8 before seven zeros", PLAIN, 0, Codes.gammas(2, Codes.signed(-1)) + "0000000", 8);
        ends(check, "5 before 6", new Packing(6, 0, 0, 1), 1, Codes.gamma(1) + "01" + Codes.gammas(1, 1), 5, FOUR);
    }

    @Sentence("each is looked for as soon as the numbers of which it speaks have been read, before another bit is read")
    static void beforeAnotherBit(Check check) {
        // The stream ends with the fault each time, and without its last bit that bit is missed.
        atOnce(check, "3", PLAIN, 5, Codes.gamma(13), 3);
        atOnce(check, "4", new Packing(2, 3, 0, 1), 6, Codes.gamma(1) + "0001", 4);
        atOnce(check, "5", new Packing(6, 0, 0, 1), 6, Codes.gamma(1) + "01", 5);
        atOnce(check, "6", REFERRING, 1, Codes.gamma(1) + "01" + Codes.gammas(1, 1), 6);
        atOnce(check, "7, its first number", BY_ONE, 0, Codes.gammas(1, 1, 1), 7);
        atOnce(check, "7, its length", BY_TWO, 0, Codes.gammas(1, 1, 0, 0), 7);
        atOnce(check, "8", PLAIN, 0, Codes.gammas(1, 1), 8);
    }

    private static void atOnce(Check check, String name, Packing packing, int u, String text, int number) {
        faulty(check, name, Tapes.ending(packing, u, text), u, number);
        faulty(check, name + ", one bit less", Tapes.ending(packing, u, text.substring(0, text.length() - 1)), u, 1);
    }

    @Sentence("if its record is faulty, the number of the fault with a minus sign, -1 .. -10")
    static void eachNumber(Check check) {
        check.due("1", Tapes.ending(PLAIN, 0, "0").degree(0), -1);
        check.due("2", Tapes.ending(PLAIN, 0, "0000000").degree(0), -2);
        check.due("3", Tapes.ending(PLAIN, 5, 0, Codes.gamma(6)).degree(0), -3);
        check.due("4", Tapes.ending(REFERRING, 0, Codes.gamma(1) + "01").degree(0), -4);
        check.due("5", Tapes.ending(new Packing(1, 0, 0, 1), 1, Codes.gamma(1) + "01").degree(1), -5);
        check.due("6", Tapes.ending(REFERRING, 1, Codes.gamma(1) + "01" + Codes.gammas(1, 1)).degree(1), -6);
        check.due("7", Tapes.ending(BY_ONE, 0, Codes.gammas(1, 1, 1)).degree(0), -7);
        check.due("8", Tapes.ending(PLAIN, 0, Codes.gammas(1, 1)).degree(0), -8);
        check.due("9", exactly(BY_TWO, 12, 0, Codes.gammas(3, 1, 0, 0, 0)).degree(0), -9);
        check.due("10", Tapes.ending(PLAIN, 4, 0, Codes.gammas(1, 0)).degree(0), -10);
    }
}
