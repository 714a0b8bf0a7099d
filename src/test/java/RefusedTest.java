import java.util.LinkedHashMap;
import java.util.Map;
import java.util.function.Supplier;
import java.util.function.ToLongFunction;

/** Calls that must leave everything as it was: two objects are made alike, one of them gets the call as well. */
public final class RefusedTest {
    private static final int N = 4;
    private static final int MIN = Integer.MIN_VALUE;
    private static final int MAX = Integer.MAX_VALUE;

    public static void main(String[] args) {
        Sentences.test(RefusedTest.class);
    }

    private static Map<String, Supplier<ArcTape>> states() {
        Map<String, Supplier<ArcTape>> states = new LinkedHashMap<>();
        states.put("new", () -> new ArcTape(N));
        states.put("packed", RefusedTest::linked);
        states.put("draft changed", () -> {
            ArcTape x = linked();
            x.add(2, 3);
            x.drop(0, 2);
            return x;
        });
        states.put("with faulty records", () -> {
            ArcTape x = linked();
            x.flip(0);
            x.flip(x.offset(2));
            return x;
        });
        states.put("kind 0, stepped", () -> stepped(0, 300));
        states.put("kind 1, stepped", () -> stepped(1, 0));
        states.put("kind 2, stepped", () -> stepped(2, 1000));
        return states;
    }

    /** A stream that would be read otherwise with another window, chain, least or K: 1 copies 0, and 3 has an interval. */
    private static ArcTape linked() {
        return Tapes.packed(new Packing(2, 2, 2, 2), N, Tapes.row(0, 0, 2), Tapes.row(1, 0, 2), Tapes.row(3, 1, 2, 3));
    }

    /** All weights but that of node 3 are 0. */
    private static ArcTape stepped(int kind, int damping) {
        ArcTape x = linked();
        x.prefer(3, 9);
        for (int v = 0; v < 3; v++) {
            x.prefer(v, 0);
        }
        x.start(kind, damping);
        x.step(2);
        return x;
    }

    @Sentence("READING. The record of u is read from its offset on as it was written above")
    static void whatIsRead(Check check) {
        ArcTape x = linked();
        check.due("record of 0", Tapes.record(x, 0), "011" + "1" + "1" + "10" + "110");
        check.due("record of 1", Tapes.record(x, 1), "011" + "01" + "1");
        check.due("record of 3", Tapes.record(x, 3), "00100" + "1" + "010" + "00100" + "010");
        check.due("list of 1", Tapes.list(x, 1), "0,2");
        check.due("list of 3", Tapes.list(x, 3), "1,2,3");
    }

    private static void leavesAll(Check check, String call, long due, ToLongFunction<ArcTape> made) {
        for (Map.Entry<String, Supplier<ArcTape>> state : states().entrySet()) {
            ArcTape with = state.getValue().get();
            ArcTape without = state.getValue().get();
            String name = state.getKey() + ", " + call;
            check.due(name, made.applyAsLong(with), due);
            alike(check, name, with, without);
        }
    }

    private static void alike(Check check, String name, ArcTape with, ArcTape without) {
        check.due(name + " shows", State.shown(with, N), State.shown(without, N));
        check.due(name + " shows later", State.hidden(with, N), State.hidden(without, N));
    }

    private static long number(boolean answer) {
        return answer ? 1 : 0;
    }

    @Sentence("A call that is refused changes nothing.")
    static void add(Check check) {
        int[][] wrong = {{-1, 0}, {0, -1}, {N, 0}, {0, N}, {N, N}, {32, 1}, {1, 32}, {MIN, 0}, {0, MIN}, {MAX, 0}, {0, MAX}};
        for (int[] w : wrong) {
            leavesAll(check, "add(" + w[0] + ", " + w[1] + ")", 0, x -> number(x.add(w[0], w[1])));
        }
    }

    @Sentence("A call that is refused changes nothing.")
    static void addWhatIsThere(Check check) {
        for (int kind = 0; kind <= 2; kind++) {
            ArcTape with = stepped(kind, 500);
            ArcTape without = stepped(kind, 500);
            check.due("add(0, 2)", with.add(0, 2), false);
            check.due("add(3, 3)", with.add(3, 3), false);
            alike(check, "add of arcs that are there", with, without);
        }
    }

    @Sentence("A call that is refused changes nothing.")
    static void drop(Check check) {
        int[][] wrong = {{-1, 0}, {0, -1}, {N, 0}, {0, N}, {32, 1}, {1, 32}, {3, 32}, {MIN, 0}, {0, MIN}, {MAX, 0}, {0, MAX}, {0, 3}, {3, 0}};
        for (int[] w : wrong) {
            leavesAll(check, "drop(" + w[0] + ", " + w[1] + ")", 0, x -> number(x.drop(w[0], w[1])));
        }
    }

    @Sentence("A call that is refused changes nothing.")
    static void pack(Check check) {
        int[][] wrong = {{-1, 0, 0, 1}, {7, 0, 0, 1}, {0, -1, 0, 1}, {0, 4, 0, 1}, {0, 0, -1, 1}, {0, 0, 10, 1}, {0, 0, 0, 0}, {0, 0, 0, 5},
            {6, 3, 9, 5}, {6, 3, 10, 4}, {6, 4, 9, 4}, {7, 3, 9, 4}, {3, 1, 3, -1}, {MIN, 1, 1, 1}, {1, MIN, 1, 1}, {1, 1, MIN, 1},
            {1, 1, 1, MIN}, {MAX, 1, 1, 1}, {1, MAX, 1, 1}, {1, 1, MAX, 1}, {1, 1, 1, MAX}, {-1, -1, -1, -1}};
        for (int[] w : wrong) {
            leavesAll(check, "pack(" + w[0] + ", " + w[1] + ", " + w[2] + ", " + w[3] + ")", -1, x -> x.pack(w[0], w[1], w[2], w[3]));
        }
    }

    @Sentence("A call that is refused changes nothing.")
    static void flip(Check check) {
        for (int p : new int[] {-1, -2, MIN, MAX, 800, 4096}) {
            leavesAll(check, "flip(" + p + ")", 0, x -> number(x.flip(p)));
        }
        leavesAll(check, "flip behind the last bit", 0, x -> number(x.flip(x.offset(N))));
    }

    @Sentence("A call that is refused changes nothing.")
    static void prefer(Check check) {
        int[][] wrong = {{-1, 1}, {N, 1}, {32, 1}, {MIN, 1}, {MAX, 1}, {3, -1}, {3, 101}, {3, MIN}, {3, MAX}, {0, -1}, {0, 101}, {0, -9}};
        for (int[] w : wrong) {
            leavesAll(check, "prefer(" + w[0] + ", " + w[1] + ")", 0, x -> number(x.prefer(w[0], w[1])));
        }
    }

    @Sentence("A call that is refused changes nothing.")
    static void preferNothing(Check check) {
        for (int kind = 0; kind <= 2; kind++) {
            ArcTape with = stepped(kind, 500);
            ArcTape without = stepped(kind, 500);
            check.due("prefer(3, 0)", with.prefer(3, 0), false);
            alike(check, "prefer(3, 0)", with, without);
        }
    }

    @Sentence("A call that is refused changes nothing.")
    static void start(Check check) {
        int[][] wrong = {{-1, 0}, {3, 0}, {MIN, 0}, {MAX, 0}, {0, -1}, {0, 1001}, {0, MIN}, {0, MAX}, {1, -1}, {1, 1001}, {2, -1}, {2, 1001},
            {1, MIN}, {2, MAX}, {3, 1001}};
        for (int[] w : wrong) {
            leavesAll(check, "start(" + w[0] + ", " + w[1] + ")", 0, x -> number(x.start(w[0], w[1])));
        }
    }

    @Sentence("A call that is refused changes nothing.")
    static void step(Check check) {
        for (int times : new int[] {-1, 21, 22, MIN, MAX}) {
            leavesAll(check, "step(" + times + ")", -1, x -> x.step(times));
        }
    }

    @Sentence("Makes that many steps (0 .. 20)")
    static void stepOfNone(Check check) {
        leavesAll(check, "step(0)", 0, x -> x.step(0));
    }

    @Sentence("pack writes all of it anew from the draft, flip changes one bit, nothing else changes it.")
    static void streamStays(Check check) {
        for (Map.Entry<String, Supplier<ArcTape>> state : states().entrySet()) {
            ArcTape x = state.getValue().get();
            String before = State.stream(x, N);
            x.add(2, 1);
            x.drop(0, 0);
            x.prefer(1, 4);
            x.step(3);
            x.start(1, 10);
            x.step(20);
            x.start(2, 10);
            State.shown(x, N);
            check.due(state.getKey(), State.stream(x, N), before);
        }
    }

    @Sentence("Nothing is promised beyond the answers and state changes described above")
    static void wrongQuestions(Check check) {
        for (int a : new int[] {MIN, -1, N, 32, MAX}) {
            leavesAll(check, "degree(" + a + ")", -100, x -> x.degree(a));
            leavesAll(check, "successor(" + a + ", 0)", -1, x -> x.successor(a, 0));
            leavesAll(check, "successor(0, " + a + ")", -1, x -> x.successor(0, a));
            leavesAll(check, "reference(" + a + ")", -1, x -> x.reference(a));
            leavesAll(check, "component(" + a + ")", -1, x -> x.component(a));
            leavesAll(check, "score(" + a + ")", -1, x -> x.score(a));
            leavesAll(check, "hub(" + a + ")", -1, x -> x.hub(a));
            leavesAll(check, "top(" + a + ")", -1, x -> x.top(a));
        }
        for (int a : new int[] {MIN, -1, N + 1, 32, MAX}) {
            leavesAll(check, "offset(" + a + ")", -1, x -> x.offset(a));
        }
        for (int a : new int[] {MIN, -1, 800, MAX}) {
            leavesAll(check, "bit(" + a + ")", -1, x -> x.bit(a));
        }
    }

    @Sentence("Nothing is promised beyond the answers and state changes described above")
    static void questions(Check check) {
        for (Map.Entry<String, Supplier<ArcTape>> state : states().entrySet()) {
            ArcTape asked = state.getValue().get();
            String before = State.shown(asked, N);
            check.due(state.getKey() + ", asked again", State.shown(asked, N), before);
            check.due(state.getKey() + ", later", State.hidden(asked, N), State.hidden(state.getValue().get(), N));
        }
    }
}
