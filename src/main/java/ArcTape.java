/** A directed graph kept as a stream of bits, with scores of its nodes and its components; README.md says how to use it. */
public final class ArcTape {
    public static final int NONE = -100;

    private static final int MOST_NODES = 12;
    private static final int MOST_WINDOW = 6;
    private static final int MOST_CHAIN = 3;
    private static final int MOST_LEAST = 9;
    private static final int MOST_K = 4;
    private static final int MOST_WEIGHT = 100;
    private static final int MOST_DAMPING = 1000;
    private static final int MOST_STEPS = 20;
    private static final int FIRST_DAMPING = 850;

    // Sets of nodes, here and below, are numbers in which bit v stands for node v.
    private final int n;
    private final int[] draft;
    private final Tape tape;
    private final Layout layout;
    private final Packer packer;
    private final Reader reader;
    private final Parts parts;
    private final Scores scores;

    public ArcTape(int n) {
        this.n = Math.max(1, Math.min(MOST_NODES, n));
        draft = new int[this.n];
        tape = new Tape();
        layout = new Layout(this.n);
        packer = new Packer(draft, layout, tape);
        reader = new Reader(this.n, layout, tape);
        parts = new Parts(reader.lists);
        scores = new Scores(reader.lists);
        packer.writeAll();
        reader.readAll();
        scores.begin(Scores.BY_RANK, FIRST_DAMPING);
    }

    public boolean add(int u, int v) {
        if (!isNode(u) || !isNode(v) || holds(draft[u], v)) {
            return false;
        }
        draft[u] |= 1 << v;
        return true;
    }

    public boolean drop(int u, int v) {
        if (!isNode(u) || !isNode(v) || !holds(draft[u], v)) {
            return false;
        }
        draft[u] &= ~(1 << v);
        return true;
    }

    public int pack(int window, int chain, int least, int k) {
        if (!within(window, 0, MOST_WINDOW) || !within(chain, 0, MOST_CHAIN)
                || !within(least, 0, MOST_LEAST) || !within(k, 1, MOST_K)) {
            return -1;
        }
        layout.window = window;
        layout.chain = chain;
        layout.least = least;
        layout.k = k;
        packer.writeAll();
        reader.readAll();
        return tape.length;
    }

    public int offset(int u) {
        return within(u, 0, n) ? layout.offsets[u] : -1;
    }

    public int bit(int p) {
        return isPlace(p) ? tape.bits[p] : -1;
    }

    public boolean flip(int p) {
        if (!isPlace(p)) {
            return false;
        }
        tape.bits[p] = (byte) (1 - tape.bits[p]);
        reader.readAll();
        return true;
    }

    public int degree(int u) {
        if (!isNode(u)) {
            return NONE;
        }
        return reader.faults[u] == 0 ? Integer.bitCount(reader.lists[u]) : -reader.faults[u];
    }

    public int successor(int u, int i) {
        if (!isNode(u)) {
            return -1;
        }
        int before = 0;
        for (int v = 0; v < n; v++) {
            if (holds(reader.lists[u], v)) {
                if (before == i) {
                    return v;
                }
                before++;
            }
        }
        return -1;
    }

    public int reference(int u) {
        return isNode(u) && reader.faults[u] == 0 ? reader.references[u] : -1;
    }

    public int components() {
        return parts.numberAll();
    }

    public int component(int v) {
        if (!isNode(v)) {
            return -1;
        }
        parts.numberAll();
        return parts.numbers[v];
    }

    public boolean prefer(int v, int w) {
        if (!isNode(v) || !within(w, 0, MOST_WEIGHT) || scores.weightOfOthers(v) + w == 0) {
            return false;
        }
        scores.weights[v] = w;
        return true;
    }

    public boolean start(int kind, int damping) {
        if (!within(kind, Scores.BY_RANK, Scores.BY_SHARES) || !within(damping, 0, MOST_DAMPING)) {
            return false;
        }
        scores.begin(kind, damping);
        return true;
    }

    public int step(int times) {
        return within(times, 0, MOST_STEPS) ? scores.advance(times) : -1;
    }

    public long score(int v) {
        return isNode(v) ? scores.scores[v] : -1;
    }

    public long hub(int v) {
        return isNode(v) ? scores.hubs[v] : -1;
    }

    public int top(int k) {
        for (int v = 0; v < n; v++) {
            if (scores.placeOf(v) == k) {
                return v;
            }
        }
        return -1;
    }

    public long change() {
        return scores.moved;
    }

    private boolean isNode(int v) {
        return within(v, 0, n - 1);
    }

    private boolean isPlace(int p) {
        return within(p, 0, tape.length - 1);
    }

    private static boolean within(int x, int least, int most) {
        return x >= least && x <= most;
    }

    private static boolean holds(int set, int v) {
        return (set >> v & 1) != 0;
    }

    /** What the latest packing settled: its four numbers and where each record begins. */
    private static final class Layout {
        int window = 0;
        int chain = 0;
        int least = 0;
        int k = 1;
        final int[] offsets;

        Layout(int n) {
            offsets = new int[n + 1];
        }
    }

    /** The stream, and the codes by which numbers are put at its end. */
    private static final class Tape {
        // No record without a reference has more than 61 bits, and none with one is kept that is longer;
        // so 12 * 61 bits are kept at most, and a reference that is only tried adds less than 40 to its record.
        static final int MOST_BITS = 800;

        final byte[] bits = new byte[MOST_BITS];
        int length = 0;

        void putNumber(int x, int count) {
            for (int i = count - 1; i >= 0 && length < MOST_BITS; i--) {
                bits[length] = (byte) (x >> i & 1);
                length++;
            }
        }

        void putUnary(int x) {
            putNumber(1, x + 1);
        }

        void putGamma(int x) {
            // The highest bit of x + 1 is the 1 that ends the unary part.
            putNumber(x + 1, 2 * exponent(x + 1) + 1);
        }

        void putZeta(int x, int k) {
            int h = exponent(x + 1) / k;
            int low = 1 << h * k;
            putNumber(1, h + 1);
            if (x + 1 < 2 * low) {
                putNumber(x + 1 - low, h * k + k - 1);
            } else {
                putNumber(x + 1, h * k + k);
            }
        }

        private static int exponent(int y) {
            int e = 0;
            while (e < 30 && 1 << e + 1 <= y) {
                e++;
            }
            return e;
        }

        static int withoutSign(int s) {
            return s >= 0 ? 2 * s : -2 * s - 1;
        }

        static int withSign(int x) {
            return x % 2 == 0 ? x / 2 : -(x + 1) / 2;
        }
    }

    /** Writes the draft onto the tape. */
    private static final class Packer {
        private final int[] draft;
        private final Layout layout;
        private final Tape tape;
        private final int[] depths;
        private final int[] runs = new int[MOST_NODES + 1];
        private final int[] firsts = new int[MOST_NODES];
        private final int[] lengths = new int[MOST_NODES];

        Packer(int[] draft, Layout layout, Tape tape) {
            this.draft = draft;
            this.layout = layout;
            this.tape = tape;
            depths = new int[draft.length];
        }

        void writeAll() {
            tape.length = 0;
            for (int u = 0; u < draft.length; u++) {
                layout.offsets[u] = tape.length;
                int r = bestReference(u);
                writeRecord(u, r);
                depths[u] = r == 0 ? 0 : depths[u - r] + 1;
            }
            layout.offsets[draft.length] = tape.length;
        }

        private int bestReference(int u) {
            int begin = tape.length;
            int best = 0;
            int fewest = Tape.MOST_BITS;
            // A record without successors has no place for a reference.
            int farthest = draft[u] == 0 ? 0 : Math.min(layout.window, u);
            for (int r = 0; r <= farthest; r++) {
                if (r == 0 || mayBeReferredTo(u - r)) {
                    writeRecord(u, r);
                    if (tape.length - begin < fewest) {
                        fewest = tape.length - begin;
                        best = r;
                    }
                    tape.length = begin;
                }
            }
            return best;
        }

        private boolean mayBeReferredTo(int u) {
            return draft[u] != 0 && depths[u] < layout.chain;
        }

        private void writeRecord(int u, int r) {
            int rest = draft[u];
            tape.putGamma(Integer.bitCount(rest));
            if (rest != 0 && layout.window > 0) {
                tape.putUnary(r);
            }
            if (r > 0) {
                writeRuns(rest, draft[u - r]);
                rest &= ~draft[u - r];
            }
            if (rest != 0 && layout.least > 0) {
                rest = writeIntervals(u, rest);
            }
            writeSingles(u, rest);
        }

        private void writeRuns(int wanted, int offered) {
            int last = 0;
            boolean copying = true;
            runs[0] = 0;
            for (int v = 0; v < draft.length; v++) {
                if (holds(offered, v)) {
                    if (holds(wanted, v) != copying) {
                        copying = !copying;
                        last++;
                        runs[last] = 0;
                    }
                    runs[last]++;
                }
            }
            tape.putGamma(last);
            for (int i = 0; i < last; i++) {
                tape.putGamma(i == 0 ? runs[i] : runs[i] - 1);
            }
        }

        /** Answers the nodes of the rest that are in no interval. */
        private int writeIntervals(int u, int rest) {
            int count = 0;
            int singles = rest;
            // The node behind a row is not in the rest, so the next row begins behind it or later.
            for (int v = 0; v < draft.length; v += rowLength(rest, v) + 1) {
                int length = rowLength(rest, v);
                if (length >= layout.least) {
                    firsts[count] = v;
                    lengths[count] = length;
                    count++;
                    singles &= ~((1 << length) - 1 << v);
                }
            }
            tape.putGamma(count);
            int last = 0;
            for (int i = 0; i < count; i++) {
                tape.putGamma(i == 0 ? Tape.withoutSign(firsts[i] - u) : firsts[i] - last - 2);
                tape.putGamma(lengths[i] - layout.least);
                last = firsts[i] + lengths[i] - 1;
            }
            return singles;
        }

        private int rowLength(int set, int first) {
            int length = 0;
            while (first + length < draft.length && holds(set, first + length)) {
                length++;
            }
            return length;
        }

        private void writeSingles(int u, int singles) {
            int before = -1;
            for (int v = 0; v < draft.length; v++) {
                if (holds(singles, v)) {
                    tape.putZeta(before < 0 ? Tape.withoutSign(v - u) : v - before - 1, layout.k);
                    before = v;
                }
            }
        }
    }

    /** Reads the lists out of the tape; nodes are read in ascending order, so what a record refers to is read before it. */
    private static final class Reader {
        private static final int TOO_MANY_ZEROS = 7;

        final int[] lists;
        final int[] faults;
        final int[] references;
        private final int[] depths;
        private final int n;
        private final Layout layout;
        private final Tape tape;

        // The record that is being read: what stands so far, and how many nodes are still due.
        private int node;
        private int place;
        private int fault;
        private int reference;
        private int list;
        private int due;
        private boolean twice;

        Reader(int n, Layout layout, Tape tape) {
            this.n = n;
            this.layout = layout;
            this.tape = tape;
            lists = new int[n];
            faults = new int[n];
            references = new int[n];
            depths = new int[n];
        }

        void readAll() {
            for (int u = 0; u < n; u++) {
                node = u;
                place = layout.offsets[u];
                fault = 0;
                reference = 0;
                list = 0;
                twice = false;
                readRecord();
                faults[u] = fault;
                lists[u] = fault == 0 ? list : 0;
                references[u] = fault == 0 ? reference : 0;
                depths[u] = references[u] == 0 ? 0 : depths[u - references[u]] + 1;
            }
        }

        private void readRecord() {
            due = nextGamma();
            failIf(due > n, 3);
            if (goesOn() && layout.window > 0) {
                readReference();
            }
            if (goesOn() && reference > 0) {
                readRuns(lists[node - reference]);
            }
            if (goesOn() && layout.least > 0) {
                readIntervals();
            }
            if (goesOn()) {
                readSingles();
            }
            failIf(twice, 9);
            failIf(place != layout.offsets[node + 1], 10);
        }

        private boolean goesOn() {
            return fault == 0 && due > 0;
        }

        private void failIf(boolean wrong, int number) {
            if (wrong && fault == 0) {
                fault = number;
            }
        }

        private void readReference() {
            reference = nextUnary();
            failIf(reference > layout.window || reference > node, 4);
            if (fault == 0 && reference > 0) {
                int to = node - reference;
                failIf(faults[to] != 0 || depths[to] >= layout.chain, 5);
            }
        }

        private void readRuns(int offered) {
            int copied = 0;
            int left = offered;
            int count = nextGamma();
            for (int i = 0; i < count && fault == 0; i++) {
                int length = i == 0 ? nextGamma() : nextGamma() + 1;
                failIf(length > Integer.bitCount(left), 6);
                int run = lowest(left, length);
                left &= ~run;
                if (i % 2 == 0) {
                    copied |= run;
                }
            }
            if (count % 2 == 0) {
                copied |= left;
            }
            failIf(Integer.bitCount(copied) > due, 6);
            take(copied);
        }

        private static int lowest(int set, int count) {
            int left = set;
            for (int i = 0; i < count && left != 0; i++) {
                left &= left - 1;
            }
            return set & ~left;
        }

        private void readIntervals() {
            int count = nextGamma();
            int last = 0;
            for (int i = 0; i < count && fault == 0; i++) {
                int first = i == 0 ? node + Tape.withSign(nextGamma()) : last + 2 + nextGamma();
                failIf(!within(first, 0, n - 1), 7);
                int length = nextGamma() + layout.least;
                last = first + length - 1;
                failIf(last > n - 1 || length > due, 7);
                if (fault == 0) {
                    take((1 << length) - 1 << first);
                }
            }
        }

        private void readSingles() {
            int count = due;
            int v = 0;
            for (int i = 0; i < count && fault == 0; i++) {
                v = i == 0 ? node + Tape.withSign(nextZeta()) : v + 1 + nextZeta();
                failIf(!within(v, 0, n - 1), 8);
                if (fault == 0) {
                    take(1 << v);
                }
            }
        }

        private void take(int nodes) {
            twice = twice || (list & nodes) != 0;
            list |= nodes;
            due -= Integer.bitCount(nodes);
        }

        /** Behind a fault every bit is 1 and none is read, so that each code comes to its end. */
        private int nextBit() {
            if (fault == 0 && place >= tape.length) {
                fault = 1;
            }
            if (fault != 0) {
                return 1;
            }
            place++;
            return tape.bits[place - 1];
        }

        private int nextUnary() {
            for (int zeros = 0; zeros < TOO_MANY_ZEROS; zeros++) {
                if (nextBit() == 1) {
                    return zeros;
                }
            }
            failIf(true, 2);
            return 0;
        }

        private int nextNumber(int high, int count) {
            int x = high;
            for (int i = 0; i < count; i++) {
                x = 2 * x + nextBit();
            }
            return x;
        }

        private int nextGamma() {
            return nextNumber(1, nextUnary()) - 1;
        }

        private int nextZeta() {
            int h = nextUnary();
            int low = 1 << h * layout.k;
            int x = nextNumber(0, h * layout.k + layout.k - 1);
            return x < low ? x + low - 1 : nextNumber(x, 1) - 1;
        }
    }

    /** The components. */
    private static final class Parts {
        final int[] numbers;
        private final int[] lists;
        private final int[] reached;

        Parts(int[] lists) {
            this.lists = lists;
            numbers = new int[lists.length];
            reached = new int[lists.length];
        }

        /** Answers how many components there are. */
        int numberAll() {
            findReached();
            int done = 0;
            int count = 0;
            for (int v = nextReady(done); v >= 0 && count < lists.length; v = nextReady(done)) {
                int part = partOf(v);
                for (int w = 0; w < lists.length; w++) {
                    if (holds(part, w)) {
                        numbers[w] = count;
                    }
                }
                done |= part;
                count++;
            }
            return count;
        }

        private void findReached() {
            for (int v = 0; v < lists.length; v++) {
                reached[v] = lists[v] | 1 << v;
            }
            for (int by = 0; by < lists.length; by++) {
                for (int v = 0; v < lists.length; v++) {
                    if (holds(reached[v], by)) {
                        reached[v] |= reached[by];
                    }
                }
            }
        }

        /** The nodes of one part are ready together, so the least ready node is the least of its part. */
        private int nextReady(int done) {
            for (int v = 0; v < lists.length; v++) {
                if (!holds(done, v) && (reached[v] & ~done & ~partOf(v)) == 0) {
                    return v;
                }
            }
            return -1;
        }

        private int partOf(int v) {
            int part = 0;
            for (int w = 0; w < lists.length; w++) {
                if (holds(reached[v], w) && holds(reached[w], v)) {
                    part |= 1 << w;
                }
            }
            return part;
        }
    }

    /** The scores, hubs and weights of the nodes. */
    private static final class Scores {
        static final int BY_RANK = 0;
        static final int BY_GREATEST = 1;
        static final int BY_SHARES = 2;

        private static final long WHOLE = 1000000000000L;
        private static final long WHOLE_BY_DAMPING = 1000000000L;
        private static final long GREATEST = 1000000L;

        final long[] scores;
        final long[] hubs;
        final int[] weights;
        long moved;
        private final int[] lists;
        private final long[] old;
        private int kind;
        private int damping;

        Scores(int[] lists) {
            this.lists = lists;
            scores = new long[lists.length];
            hubs = new long[lists.length];
            old = new long[lists.length];
            weights = new int[lists.length];
            for (int v = 0; v < lists.length; v++) {
                weights[v] = 1;
            }
        }

        void begin(int newKind, int newDamping) {
            kind = newKind;
            damping = newDamping;
            moved = 0;
            for (int v = 0; v < lists.length; v++) {
                scores[v] = kind == BY_GREATEST ? GREATEST : quotient(WHOLE, lists.length);
                hubs[v] = kind == BY_GREATEST ? GREATEST : 0;
            }
        }

        int advance(int times) {
            for (int made = 0; made < times; made++) {
                stepOnce();
                if (moved == 0) {
                    return made + 1;
                }
            }
            return times;
        }

        int weightOfOthers(int v) {
            int sum = 0;
            for (int w = 0; w < lists.length; w++) {
                if (w != v) {
                    sum += weights[w];
                }
            }
            return sum;
        }

        int placeOf(int v) {
            int before = 0;
            for (int w = 0; w < lists.length; w++) {
                if (scores[w] > scores[v] || scores[w] == scores[v] && w < v) {
                    before++;
                }
            }
            return before;
        }

        private void stepOnce() {
            System.arraycopy(scores, 0, old, 0, scores.length);
            if (kind == BY_RANK) {
                stepByRank();
            } else if (kind == BY_GREATEST) {
                stepByGreatest();
            } else {
                stepByShares();
            }
            moved = 0;
            for (int v = 0; v < scores.length; v++) {
                moved += Math.abs(scores[v] - old[v]);
            }
        }

        private void stepByRank() {
            long all = weightOfOthers(-1);
            long idle = 0;
            for (int u = 0; u < lists.length; u++) {
                idle += lists[u] == 0 ? old[u] : 0;
            }
            for (int v = 0; v < lists.length; v++) {
                long linked = 0;
                for (int u = 0; u < lists.length; u++) {
                    linked += holds(lists[u], v) ? quotient(old[u], linksFrom(u)) : 0;
                }
                long given = quotient((MOST_DAMPING - damping) * WHOLE_BY_DAMPING * weights[v], all);
                scores[v] = given + damping * (linked + quotient(idle * weights[v], all)) / MOST_DAMPING;
            }
        }

        private void stepByGreatest() {
            for (int v = 0; v < lists.length; v++) {
                scores[v] = 0;
                for (int u = 0; u < lists.length; u++) {
                    scores[v] += holds(lists[u], v) ? hubs[u] : 0;
                }
            }
            bringToGreatest(scores);
            for (int u = 0; u < lists.length; u++) {
                hubs[u] = 0;
                for (int v = 0; v < lists.length; v++) {
                    hubs[u] += holds(lists[u], v) ? scores[v] : 0;
                }
            }
            bringToGreatest(hubs);
        }

        private static void bringToGreatest(long[] sums) {
            long greatest = 0;
            for (int v = 0; v < sums.length; v++) {
                greatest = Math.max(greatest, sums[v]);
            }
            for (int v = 0; v < sums.length; v++) {
                sums[v] = quotient(sums[v] * GREATEST, greatest);
            }
        }

        private void stepByShares() {
            for (int u = 0; u < lists.length; u++) {
                hubs[u] = 0;
                for (int v = 0; v < lists.length; v++) {
                    hubs[u] += holds(lists[u], v) ? quotient(scores[v], linksTo(v)) : 0;
                }
            }
            for (int v = 0; v < lists.length; v++) {
                scores[v] = 0;
                for (int u = 0; u < lists.length; u++) {
                    scores[v] += holds(lists[u], v) ? quotient(hubs[u], linksFrom(u)) : 0;
                }
            }
        }

        private int linksFrom(int u) {
            return Integer.bitCount(lists[u]);
        }

        private int linksTo(int v) {
            int count = 0;
            for (int u = 0; u < lists.length; u++) {
                count += holds(lists[u], v) ? 1 : 0;
            }
            return count;
        }

        /** 0 where there is nothing to divide by, as when all sums are 0. */
        private static long quotient(long x, long by) {
            return by == 0 ? 0 : x / by;
        }
    }
}
