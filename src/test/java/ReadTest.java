import java.util.Arrays;
import java.util.stream.Collectors;

/** What the document says of reading a record without faults, and promises 7 to 10: flip, degree, successor, reference. */
public final class ReadTest {
    private static final Packing PLAIN = new Packing(0, 0, 0, 1);
    private static final Packing REFERRING = new Packing(1, 1, 0, 1);

    public static void main(String[] args) {
        Sentences.test(ReadTest.class);
    }

    @Sentence("The record of u is read from its offset on as it was written above")
    static void asItWasWritten(Check check) {
        int[][] rows = {{0, 0, 1, 2, 3, 4, 5, 6, 7, 8, 9, 10, 11}, {1, 0, 1, 2, 3, 4, 6, 7, 8, 9, 10, 11}, {3, 1, 2, 3, 9}, {4, 1, 2, 3, 9, 11}, {5, 0, 11},
            {7, 2, 4, 6, 8, 10}, {8, 2, 6, 7, 8, 10, 11}, {11, 0, 1, 2, 3, 4, 5, 6, 7, 8, 9, 10, 11}};
        String[] due = new String[12];
        for (int u = 0; u < 12; u++) {
            due[u] = "";
        }
        for (int[] row : rows) {
            due[row[0]] = Arrays.stream(row).skip(1).mapToObj(Integer::toString).collect(Collectors.joining(","));
        }
        for (int window = 0; window <= 6; window++) {
            for (int chain = 0; chain <= 3; chain++) {
                for (int least = 0; least <= 9; least++) {
                    for (int k = 1; k <= 4; k++) {
                        Packing packing = new Packing(window, chain, least, k);
                        ArcTape x = Tapes.packed(packing, 12, rows);
                        for (int u = 0; u < 12; u++) {
                            check.due(packing + ": list of " + u, Tapes.list(x, u), due[u]);
                        }
                    }
                }
            }
        }
    }

    @Sentence("The record of u is read from its offset on as it was written above")
    static void everyArc(Check check) {
        for (int window = 0; window <= 6; window++) {
            for (int chain = 0; chain <= 3; chain++) {
                for (int least = 0; least <= 9; least++) {
                    for (int k = 1; k <= 4; k++) {
                        Packing packing = new Packing(window, chain, least, k);
                        ArcTape x = Tapes.full(12);
                        packing.of(x);
                        for (int u = 0; u < 12; u++) {
                            check.due(packing + ": list of " + u, Tapes.list(x, u), "0,1,2,3,4,5,6,7,8,9,10,11");
                        }
                    }
                }
            }
        }
    }

    @Sentence("The record of u is read from its offset on as it was written above")
    static void everySet(Check check) {
        for (int u = 0; u < 12; u += 11) {
            for (int set = 0; set < 1 << 12; set++) {
                for (int k = 1; k <= 4; k++) {
                    ArcTape x = Tapes.withSet(12, u, set);
                    for (int least = 0; least <= 9; least++) {
                        x.pack(0, 0, least, k);
                        check.due("least " + least + ", K " + k + ": set of " + u, Tapes.set(x, u), set);
                    }
                }
            }
        }
    }

    @Sentence("The record of u is read from its offset on")
    static void fromItsOffset(Check check) {
        ArcTape x = Tapes.packed(PLAIN, 3, Tapes.row(0, 1), Tapes.row(1, 2), Tapes.row(2, 0));
        // The record of 0 becomes as long as nothing else, but that of 1 begins where it began.
        Tapes.overwrite(x, 0, "1");
        check.due("0 ends too early", x.degree(0), -10);
        check.due("1 is as it was", Tapes.list(x, 1), "2");
        check.due("2 is as it was", Tapes.list(x, 2), "0");
    }

    @Sentence("offsets, WINDOW, CHAIN, LEAST and K are those of the latest packing.")
    static void latestPacking(Check check) {
        Packing[] packings = {PLAIN, new Packing(6, 3, 9, 4), new Packing(1, 1, 0, 2), new Packing(0, 3, 1, 3), new Packing(6, 0, 0, 1), PLAIN};
        ArcTape x = Tapes.graph(6, Tapes.row(0, 1, 2, 3), Tapes.row(1, 1, 2, 3, 5), Tapes.row(5, 0, 5));
        for (Packing packing : packings) {
            packing.of(x);
            x.pack(7, 3, 3, 3);
            x.pack(3, 4, 3, 3);
            x.pack(3, 3, 10, 3);
            x.pack(3, 3, 3, 5);
            x.flip(0);
            x.flip(0);
            check.due(packing + ": list of 0", Tapes.list(x, 0), "1,2,3");
            check.due(packing + ": list of 1", Tapes.list(x, 1), "1,2,3,5");
            check.due(packing + ": list of 2", Tapes.list(x, 2), "");
            check.due(packing + ": list of 5", Tapes.list(x, 5), "0,5");
        }
    }

    @Sentence("Y and depths are then what reading gives")
    static void whatReadingGives(Check check) {
        ArcTape x = Tapes.packed(REFERRING, 12, Tapes.row(0, 0, 3, 6, 9), Tapes.row(1, 0, 3, 6, 9));
        check.due("record of 0", Tapes.record(x, 0), Codes.gamma(4) + "1" + Codes.gammas(0, 2, 2, 2));
        check.due("record of 1", Tapes.record(x, 1), Codes.gamma(4) + "01" + Codes.gamma(0));
        // 0, 2, 5 and 8 now, and so for the node that copies it, though the draft says otherwise.
        Tapes.overwrite(x, 0, Codes.gamma(4) + "1" + Codes.gammas(0, 1, 2, 2));
        check.due("list of 0", Tapes.list(x, 0), "0,2,5,8");
        check.due("list of 1", Tapes.list(x, 1), "0,2,5,8");
    }

    @Sentence("Y and depths are then what reading gives")
    static void depthAsRead(Check check) {
        ArcTape x = Tapes.packed(new Packing(2, 1, 0, 1), 12, Tapes.row(0, 0, 3, 6, 9), Tapes.row(1, 0, 3, 6, 9), Tapes.row(2, 0, 3, 6, 9));
        check.due("record of 1", Tapes.record(x, 1), Codes.gamma(4) + "01" + "1");
        check.due("record of 2", Tapes.record(x, 2), Codes.gamma(4) + "001" + "1");
        // The same number of bits: all of 1 is copied, and 2 itself is the rest.
        Tapes.overwrite(x, x.offset(2), Codes.gamma(3) + "01" + "1" + "1");
        check.due("1 is as deep as it was written", x.degree(2), -5);
        // The same number of bits, but no reference: 1 and 3.
        Tapes.overwrite(x, x.offset(1), Codes.gamma(2) + "1" + "1" + "010");
        check.due("list of 1", Tapes.list(x, 1), "1,3");
        check.due("1 is not deep any more", Tapes.list(x, 2), "1,2,3");
        check.due("reference(2)", x.reference(2), 1);
    }

    /** Node 0 has 0, 3, 6, 9; the record is that of node 1, and the nodes behind it have no successors. */
    private static void reads(Check check, String name, String record, String list) {
        ArcTape x = Tapes.ending(REFERRING, 12, 1, record + "1".repeat(10), Tapes.row(0, 0, 3, 6, 9));
        check.due(name, Tapes.list(x, 1), list);
        check.due(name + ": reference(1)", x.reference(1), 1);
    }

    @Sentence("the runs are taken in turn as copied and as left out, the first as copied; "
        + "what is left of Y behind the runs written is copied if their number is even, else left out.")
    static void runs(Check check) {
        reads(check, "no run: all copied", Codes.gamma(4) + "01" + Codes.gammas(0), "0,3,6,9");
        reads(check, "one of 0: none copied", Codes.gamma(1) + "01" + Codes.gammas(1, 0) + Codes.gamma(Codes.signed(4)), "5");
        reads(check, "one of 1", Codes.gamma(1) + "01" + Codes.gammas(1, 1), "0");
        reads(check, "one of 4", Codes.gamma(4) + "01" + Codes.gammas(1, 4), "0,3,6,9");
        reads(check, "two, of 0 and 1", Codes.gamma(3) + "01" + Codes.gammas(2, 0, 0), "3,6,9");
        reads(check, "two, of 1 and 1", Codes.gamma(3) + "01" + Codes.gammas(2, 1, 0), "0,6,9");
        reads(check, "two, of 1 and 3: nothing is left", Codes.gamma(1) + "01" + Codes.gammas(2, 1, 2), "0");
        reads(check, "three, of 0, 1 and 1", Codes.gamma(1) + "01" + Codes.gammas(3, 0, 0, 0), "3");
        reads(check, "three, of 1, 1 and 1", Codes.gamma(2) + "01" + Codes.gammas(3, 1, 0, 0), "0,6");
        reads(check, "four, of 0, 1, 1 and 1", Codes.gamma(2) + "01" + Codes.gammas(4, 0, 0, 0, 0), "3,9");
        reads(check, "four, of 1, 1, 1 and 1", Codes.gamma(2) + "01" + Codes.gammas(4, 1, 0, 0, 0), "0,6");
        for (int v = 0; v < 12; v++) {
            ArcTape x = Tapes.ending(REFERRING, 12, 1, Codes.gamma(1) + "01" + Codes.gammas(1, 1) + "1".repeat(10), Tapes.row(0, v));
            check.due("one of 1, where Y is " + v + " alone", Tapes.list(x, 1), Integer.toString(v));
        }
    }

    @Sentence("The LIST of u are the successors so read, ascending")
    static void ascending(Check check) {
        // Copied are 2, 5, 8 and 11, an interval is 6, 7, behind it come 0 and 9.
        ArcTape x = Tapes.packed(new Packing(1, 1, 2, 1), 12, Tapes.row(4, 2, 5, 8, 11), Tapes.row(5, 0, 2, 5, 6, 7, 8, 9, 11));
        check.due("record of 5", Tapes.record(x, 5), Codes.gamma(8) + "01" + Codes.gammas(0, 1, Codes.signed(1), 0) + Codes.gammas(Codes.signed(-5), 8));
        int[] due = {0, 2, 5, 6, 7, 8, 9, 11};
        for (int i = 0; i < due.length; i++) {
            check.due("successor(5, " + i + ")", x.successor(5, i), due[i]);
        }
        check.due("reference(5)", x.reference(5), 1);
    }

    @Sentence("the list of a node whose record is faulty is empty.")
    static void faultyList(Check check) {
        ArcTape x = Tapes.packed(PLAIN, 3, Tapes.row(0, 0, 1, 2));
        // d = 3 and 0, 1, 2; then with the last bit 0 a third node that is not read to its end.
        x.flip(7);
        check.due("0 and 1 have been read when the fault comes", x.degree(0) < 0, true);
        for (int i = 0; i < 3; i++) {
            check.due("successor(0, " + i + ")", x.successor(0, i), -1);
        }
    }

    @Sentence("The bit at place p becomes 1 if it was 0, and 0 if it was 1: true")
    static void flip(Check check) {
        ArcTape x = Tapes.packed(PLAIN, 3, Tapes.row(0, 1));
        String due = "01001111";
        for (int p = 0; p < 8; p++) {
            check.due("flip(" + p + ")", x.flip(p), true);
            String flipped = due.substring(0, p) + (due.charAt(p) == '0' ? "1" : "0") + due.substring(p + 1);
            check.due("flipped " + p, Tapes.bits(x, 0, 8), flipped);
            check.due("flip(" + p + ") again", x.flip(p), true);
            check.due("as before " + p, Tapes.bits(x, 0, 8), due);
            check.due("list of 0", Tapes.list(x, 0), "1");
        }
        check.due("offsets stay", x.offset(3), 8);
        // 1 - 0 becomes -1.
        x.flip(5);
        check.due("degree(0)", x.degree(0), -8);
        x.flip(7);
        check.due("degree(2)", x.degree(2), -1);
    }

    @Sentence("refused with false if the stream has no such place.")
    static void flipNoPlace(Check check) {
        ArcTape x = Tapes.packed(PLAIN, 3, Tapes.row(0, 1));
        for (int wrong : new int[] {-1, 8, 9, 799, 800, 801, Integer.MIN_VALUE, Integer.MAX_VALUE}) {
            check.due("flip(" + wrong + ")", x.flip(wrong), false);
        }
        check.due("stream", Tapes.bits(x, 0, 8), "01001111");
        x.drop(0, 1);
        PLAIN.of(x);
        check.due("flip(2), the last", x.flip(2), true);
        check.due("flip(3), which was a place", x.flip(3), false);
        ArcTape one = new ArcTape(1);
        check.due("flip(0) of one bit", one.flip(0), true);
        check.due("flip(1) of one bit", one.flip(1), false);
    }

    @Sentence("The number of nodes in the list of u")
    static void degree(Check check) {
        ArcTape x = new ArcTape(12);
        for (int u = 0; u < 12; u++) {
            for (int v = 0; v < u; v++) {
                x.add(u, v);
            }
        }
        x.add(0, 0);
        x.pack(2, 2, 2, 2);
        check.due("degree(0)", x.degree(0), 1);
        for (int u = 1; u < 12; u++) {
            check.due("degree(" + u + ")", x.degree(u), u);
        }
        ArcTape full = Tapes.packed(PLAIN, 12, Tapes.row(11, 0, 1, 2, 3, 4, 5, 6, 7, 8, 9, 10, 11));
        check.due("degree(11) of 12", full.degree(11), 12);
        check.due("degree(0) of none", full.degree(0), 0);
    }

    @Sentence("NONE if u is not a node.")
    static void degreeOfNoNode(Check check) {
        for (int n = 1; n <= 12; n++) {
            ArcTape x = new ArcTape(n);
            for (int wrong : new int[] {-1, n, n + 1, 32, -32, Integer.MIN_VALUE, Integer.MAX_VALUE}) {
                check.due(n + " nodes: degree(" + wrong + ")", x.degree(wrong), -100);
            }
        }
    }

    @Sentence("The i-th node (from 0) of the list of u; -1 if u is not a node or its list has none there.")
    static void successor(Check check) {
        ArcTape x = Tapes.packed(new Packing(3, 2, 2, 3), 5, Tapes.row(2, 4, 0, 3), Tapes.row(4, 0, 1, 2, 3, 4));
        int[] due = {0, 3, 4};
        for (int i = 0; i < 3; i++) {
            check.due("successor(2, " + i + ")", x.successor(2, i), due[i]);
        }
        for (int wrong : new int[] {-1, 3, 4, 32, -32, Integer.MIN_VALUE, Integer.MAX_VALUE}) {
            check.due("successor(2, " + wrong + ")", x.successor(2, wrong), -1);
        }
        check.due("successor(4, 4), the last of all", x.successor(4, 4), 4);
        check.due("successor(4, 5)", x.successor(4, 5), -1);
        check.due("successor(0, 0) of an empty list", x.successor(0, 0), -1);
        for (int wrong : new int[] {-1, 5, 6, 34, -30, Integer.MIN_VALUE, Integer.MAX_VALUE}) {
            check.due("successor(" + wrong + ", 0)", x.successor(wrong, 0), -1);
        }
    }

    @Sentence("The reference in the record of u as it is read, 0 if it has none or d is 0")
    static void reference(Check check) {
        ArcTape x = Tapes.packed(new Packing(2, 1, 0, 1), 12, Tapes.row(5, 6));
        check.due("record of 5", Tapes.record(x, 5), "010" + "1" + "011");
        check.due("reference(5)", x.reference(5), 0);
        check.due("reference(4), d is 0", x.reference(4), 0);
        // As read, a reference may be to a node without successors: no runs, 5 as the rest.
        Tapes.overwrite(x, x.offset(5), "010" + "01" + "1" + "1");
        check.due("list of 5", Tapes.list(x, 5), "5");
        check.due("reference(5) to an empty list", x.reference(5), 1);
        ArcTape y = Tapes.packed(REFERRING, 12, Tapes.row(0, 0, 3, 6, 9), Tapes.row(1, 0, 3, 6, 9));
        check.due("reference(1)", y.reference(1), 1);
        y.drop(0, 3);
        y.drop(1, 3);
        check.due("reference(1) of the stream, not of the draft", y.reference(1), 1);
        PLAIN.of(y);
        check.due("reference(1) with no window", y.reference(1), 0);
    }

    @Sentence("-1 if u is not a node or its record is faulty.")
    static void noReference(Check check) {
        for (int n = 1; n <= 12; n++) {
            ArcTape x = new ArcTape(n);
            for (int wrong : new int[] {-1, n, n + 1, 32, -32, Integer.MIN_VALUE, Integer.MAX_VALUE}) {
                check.due(n + " nodes: reference(" + wrong + ")", x.reference(wrong), -1);
            }
        }
        ArcTape y = Tapes.packed(REFERRING, 12, Tapes.row(0, 0, 3, 6, 9), Tapes.row(1, 0, 3, 6, 9));
        y.flip(0);
        check.due("faulty, without a window's number", y.reference(0), -1);
        check.due("faulty behind its reference", y.degree(1), -5);
        check.due("reference(1)", y.reference(1), -1);
        y.flip(0);
        check.due("no more faulty", y.reference(1), 1);
    }
}
