/** What the document's terms say of nodes and of the draft, and promises 1 to 3: a new object, add, drop. */
public final class DraftTest {
    private static final Packing PLAIN = new Packing(0, 0, 0, 1);
    private static final long ALL = 1000000000000L;

    public static void main(String[] args) {
        Sentences.test(DraftTest.class);
    }

    private static void hasNodes(Check check, int asked, int n) {
        ArcTape x = new ArcTape(asked);
        String name = "new ArcTape(" + asked + "): ";
        check.due(name + "the first node", x.degree(0), 0);
        check.due(name + "the last node", x.degree(n - 1), 0);
        check.due(name + "behind it", x.degree(n), ArcTape.NONE);
        check.due(name + "the offset of n", x.offset(n), n);
        check.due(name + "no offset behind it", x.offset(n + 1), -1);
        check.due(name + "add at the last node", x.add(n - 1, n - 1), true);
        check.due(name + "add behind it", x.add(n - 1, n), false);
        check.due(name + "the last component", x.components(), n);
        check.due(name + "the last in order", x.top(n - 1), n - 1);
        check.due(name + "none behind it", x.top(n), -1);
    }

    @Sentence("A graph with n nodes")
    static void eachNumberOfNodes(Check check) {
        for (int n = 1; n <= 12; n++) {
            hasNodes(check, n, n);
        }
    }

    @Sentence("1 if n is less than 1")
    static void tooFewNodes(Check check) {
        for (int asked : new int[] {0, -1, -2, -12, -31, Integer.MIN_VALUE, Integer.MIN_VALUE + 5}) {
            hasNodes(check, asked, 1);
        }
    }

    @Sentence("12 if n is more than 12")
    static void tooManyNodes(Check check) {
        for (int asked : new int[] {13, 14, 32, 33, 256, 65537, Integer.MAX_VALUE}) {
            hasNodes(check, asked, 12);
        }
    }

    @Sentence("an empty draft")
    static void emptyDraft(Check check) {
        ArcTape x = new ArcTape(12);
        for (int u = 0; u < 12; u++) {
            for (int v = 0; v < 12; v++) {
                check.due("drop(" + u + ", " + v + ")", x.drop(u, v), false);
            }
        }
        for (int n = 1; n <= 12; n++) {
            check.due("packed anew, " + n + " nodes", new ArcTape(n).pack(0, 0, 0, 1), n);
        }
    }

    @Sentence("packed with WINDOW 0, CHAIN 0, LEAST 0 and K 1")
    static void packedAtFirst(Check check) {
        for (int n = 1; n <= 12; n++) {
            ArcTape x = new ArcTape(n);
            check.due(n + " nodes: stream", Tapes.bits(x, 0, n), "111111111111".substring(0, n));
            check.due(n + " nodes: behind it", x.bit(n), -1);
            for (int u = 0; u <= n; u++) {
                check.due(n + " nodes: offset(" + u + ")", x.offset(u), u);
            }
        }
        // With no reference, no intervals and K 1, d = 1 has one bit behind it: a window, a least or a K would go on behind the end.
        ArcTape x = new ArcTape(4);
        Tapes.overwrite(x, 0, "0101");
        check.due("0101 is the node 0, and ends behind its record", x.degree(0), -10);
        ArcTape y = new ArcTape(3);
        Tapes.overwrite(y, 0, "010");
        check.due("010 has no node behind d", y.degree(0), -1);
        // K 1 shows in a number with a 0 before its 1: it has one bit more behind them, which no other K has.
        ArcTape z = new ArcTape(5);
        Tapes.overwrite(z, 0, "010" + "01");
        check.due("010 01 has a bit too few", z.degree(0), -1);
        ArcTape below = new ArcTape(6);
        Tapes.overwrite(below, 0, "010" + "010");
        check.due("010 010 is the node -1", below.degree(0), -8);
        ArcTape one = new ArcTape(6);
        Tapes.overwrite(one, 0, "010" + "011");
        check.due("010 011 is the node 1, and ends behind its record", one.degree(0), -10);
    }

    @Sentence("all weights 1")
    static void weightsAtFirst(Check check) {
        ArcTape x = new ArcTape(4);
        x.prefer(3, 2);
        x.start(0, 0);
        x.step(1);
        for (int v = 0; v < 3; v++) {
            check.due("1 of 5: score(" + v + ")", x.score(v), ALL / 5);
        }
        check.due("2 of 5: score(3)", x.score(3), 2 * ALL / 5);
    }

    @Sentence("started with kind 0 and damping 850")
    static void startedAtFirst(Check check) {
        for (int n = 1; n <= 12; n++) {
            ArcTape x = new ArcTape(n);
            check.due(n + " nodes: score(0)", x.score(0), ALL / n);
            check.due(n + " nodes: score(n - 1)", x.score(n - 1), ALL / n);
            check.due(n + " nodes: hub(0)", x.hub(0), 0);
            check.due(n + " nodes: change()", x.change(), 0);
        }
        ArcTape x = Tapes.packed(PLAIN, 2, Tapes.row(0, 1));
        check.due("step(1)", x.step(1), 1);
        // 75 * 10^9 each, and 850 / 1000 of 25 * 10^10 and of 75 * 10^10.
        check.due("score(0)", x.score(0), 287500000000L);
        check.due("score(1)", x.score(1), 712500000000L);
    }

    @Sentence("NODES are 0 .. n - 1.")
    static void nodes(Check check) {
        ArcTape x = new ArcTape(5);
        check.due("add(0, 0)", x.add(0, 0), true);
        check.due("add(4, 4)", x.add(4, 4), true);
        check.due("add(0, 4)", x.add(0, 4), true);
        check.due("add(4, 0)", x.add(4, 0), true);
        PLAIN.of(x);
        check.due("list of 0", Tapes.list(x, 0), "0,4");
        check.due("list of 4", Tapes.list(x, 4), "0,4");
    }

    @Sentence("The DRAFT is a set of arcs u to v (u may be v)")
    static void arcToItself(Check check) {
        for (int u = 0; u < 12; u++) {
            ArcTape x = new ArcTape(12);
            check.due("add", x.add(u, u), true);
            check.due("add again", x.add(u, u), false);
            PLAIN.of(x);
            check.due("list of " + u, Tapes.list(x, u), Integer.toString(u));
            check.due("drop", x.drop(u, u), true);
            check.due("drop again", x.drop(u, u), false);
        }
    }

    @Sentence("add and drop change it, and it alone.")
    static void draftAlone(Check check) {
        ArcTape x = Tapes.packed(new Packing(2, 2, 2, 2), 4, Tapes.row(0, 1, 2), Tapes.row(1, 0, 1, 2), Tapes.row(3, 0));
        x.prefer(2, 7);
        x.step(2);
        String before = State.shown(x, 4);
        x.add(2, 3);
        check.due("after add", State.shown(x, 4), before);
        x.drop(0, 1);
        check.due("after drop", State.shown(x, 4), before);
        PLAIN.of(x);
        check.due("packed: list of 2", Tapes.list(x, 2), "3");
        check.due("packed: list of 0", Tapes.list(x, 0), "2");
        check.due("packed: list of 1", Tapes.list(x, 1), "0,1,2");
    }

    @Sentence("The arc u to v comes into the draft: true")
    static void addEach(Check check) {
        ArcTape x = new ArcTape(12);
        for (int u = 0; u < 12; u++) {
            for (int v = 0; v < 12; v++) {
                check.due("add(" + u + ", " + v + ")", x.add(u, v), true);
            }
        }
        PLAIN.of(x);
        for (int u = 0; u < 12; u++) {
            check.due("list of " + u, Tapes.list(x, u), "0,1,2,3,4,5,6,7,8,9,10,11");
        }
    }

    @Sentence("The arc u to v comes into the draft")
    static void addOneWay(Check check) {
        ArcTape x = new ArcTape(3);
        x.add(0, 2);
        check.due("not the arc back", x.drop(2, 0), false);
        PLAIN.of(x);
        check.due("list of 0", Tapes.list(x, 0), "2");
        check.due("list of 1", Tapes.list(x, 1), "");
        check.due("list of 2", Tapes.list(x, 2), "");
    }

    @Sentence("refused with false if u or v is not a node")
    static void addNoNode(Check check) {
        for (int n = 1; n <= 12; n++) {
            ArcTape x = new ArcTape(n);
            for (int wrong : new int[] {-1, n, n + 1, -n, 31, 32, 33, 64, -31, -32, Integer.MIN_VALUE, Integer.MAX_VALUE}) {
                check.due(n + " nodes: add(0, " + wrong + ")", x.add(0, wrong), false);
                check.due(n + " nodes: add(" + wrong + ", 0)", x.add(wrong, 0), false);
                check.due(n + " nodes: add(" + wrong + ", " + wrong + ")", x.add(wrong, wrong), false);
            }
            check.due(n + " nodes: still no arc", PLAIN.of(x), n);
        }
    }

    @Sentence("refused with false if u or v is not a node or the arc is there.")
    static void addTwice(Check check) {
        ArcTape x = new ArcTape(3);
        x.add(0, 2);
        check.due("add(0, 2) again", x.add(0, 2), false);
        PLAIN.of(x);
        check.due("add(0, 2) when it is packed", x.add(0, 2), false);
        check.due("list of 0", Tapes.list(x, 0), "2");
        x.flip(0);
        check.due("add(0, 2) when the stream has it no more", x.add(0, 2), false);
        x.drop(0, 2);
        check.due("add(0, 2) after drop, though the stream has it", x.add(0, 2), true);
    }

    @Sentence("The arc u to v goes out of the draft: true")
    static void dropEach(Check check) {
        ArcTape x = Tapes.full(12);
        for (int u = 0; u < 12; u++) {
            for (int v = 0; v < 12; v++) {
                if (v != 5) {
                    check.due("drop(" + u + ", " + v + ")", x.drop(u, v), true);
                }
            }
        }
        PLAIN.of(x);
        for (int u = 0; u < 12; u++) {
            check.due("list of " + u, Tapes.list(x, u), "5");
        }
    }

    @Sentence("refused with false if it is not there")
    static void dropTwice(Check check) {
        ArcTape x = new ArcTape(3);
        check.due("drop(0, 2) in an empty draft", x.drop(0, 2), false);
        x.add(0, 2);
        check.due("drop(2, 0), the arc back", x.drop(2, 0), false);
        check.due("drop(0, 1)", x.drop(0, 1), false);
        check.due("drop(0, 2)", x.drop(0, 2), true);
        check.due("drop(0, 2) again", x.drop(0, 2), false);
        check.due("no arc is left", PLAIN.of(x), 3);
    }

    @Sentence("(as it never is when u or v is not a node)")
    static void dropNoNode(Check check) {
        for (int n : new int[] {1, 5, 12}) {
            ArcTape x = new ArcTape(n);
            for (int v = 0; v < n; v++) {
                x.add(0, v);
                x.add(n - 1, v);
            }
            int bits = PLAIN.of(x);
            for (int wrong : new int[] {-1, n, n + 1, -n, 31, 32, 33, 64, -31, -32, Integer.MIN_VALUE, Integer.MAX_VALUE}) {
                check.due(n + " nodes: drop(0, " + wrong + ")", x.drop(0, wrong), false);
                check.due(n + " nodes: drop(" + wrong + ", 0)", x.drop(wrong, 0), false);
            }
            check.due(n + " nodes: all arcs are there", PLAIN.of(x), bits);
        }
    }

    @Sentence("What degree() answers when there is no such node.")
    static void none(Check check) {
        check.due("NONE", ArcTape.NONE, -100);
        check.due("degree(-1)", new ArcTape(1).degree(-1), ArcTape.NONE);
    }
}
