import java.math.BigInteger;
import java.util.ArrayList;
import java.util.Collections;
import java.util.Comparator;
import java.util.List;
import java.util.TreeSet;

/** The document once more, as literally as it goes: texts of bits, sorted sets, recursion, numbers without bound. */
final class Model {
    /** The record that is being read is faulty. */
    private static final class Fault extends RuntimeException {
        private static final long serialVersionUID = 1L;
        final int number;

        Fault(int number) {
            super(null, null, false, false);
            this.number = number;
        }
    }

    /** What reading one record gave. */
    private static final class Read {
        final TreeSet<Integer> list = new TreeSet<>();
        int reference = 0;
        int depth = 0;
        int fault = 0;
    }

    private final int n;
    private final List<TreeSet<Integer>> draft = new ArrayList<>();
    private final List<Integer> offsets = new ArrayList<>();
    private StringBuilder stream = new StringBuilder();
    private int window;
    private int chain;
    private int least;
    private int k;
    private final int[] weights;
    private BigInteger[] scores;
    private BigInteger[] hubs;
    private BigInteger moved;
    private int kind;
    private int damping;

    Model(int asked) {
        n = asked < 1 ? 1 : asked > 12 ? 12 : asked;
        weights = new int[n];
        for (int v = 0; v < n; v++) {
            draft.add(new TreeSet<>());
            weights[v] = 1;
        }
        pack(0, 0, 0, 1);
        start(0, 850);
    }

    int nodes() {
        return n;
    }

    boolean isNode(int v) {
        return 0 <= v && v < n;
    }

    boolean add(int u, int v) {
        return isNode(u) && isNode(v) && draft.get(u).add(v);
    }

    boolean drop(int u, int v) {
        return isNode(u) && isNode(v) && draft.get(u).remove(v);
    }

    // Packing

    int pack(int newWindow, int newChain, int newLeast, int newK) {
        if (newWindow < 0 || newWindow > 6 || newChain < 0 || newChain > 3 || newLeast < 0 || newLeast > 9 || newK < 1 || newK > 4) {
            return -1;
        }
        window = newWindow;
        chain = newChain;
        least = newLeast;
        k = newK;
        stream = new StringBuilder();
        offsets.clear();
        int[] depth = new int[n];
        for (int u = 0; u < n; u++) {
            offsets.add(stream.length());
            String best = record(u, 0);
            for (int r = 1; r <= window && r <= u && !draft.get(u).isEmpty(); r++) {
                if (!draft.get(u - r).isEmpty() && depth[u - r] < chain && record(u, r).length() < best.length()) {
                    best = record(u, r);
                    depth[u] = 1 + depth[u - r];
                }
            }
            stream.append(best);
        }
        offsets.add(stream.length());
        return stream.length();
    }

    private String record(int u, int r) {
        TreeSet<Integer> x = draft.get(u);
        String text = gamma(x.size());
        if (x.isEmpty()) {
            return text;
        }
        if (window > 0) {
            text += unary(r);
        }
        TreeSet<Integer> rest = new TreeSet<>(x);
        if (r > 0) {
            text += runs(x, draft.get(u - r));
            rest.removeAll(draft.get(u - r));
        }
        if (rest.isEmpty()) {
            return text;
        }
        if (least > 0) {
            List<int[]> intervals = intervals(rest);
            text += gamma(intervals.size());
            for (int i = 0; i < intervals.size(); i++) {
                int a = intervals.get(i)[0];
                int z = intervals.get(i)[1];
                text += gamma(i == 0 ? signed(a - u) : a - intervals.get(i - 1)[1] - 2);
                text += gamma(z - a + 1 - least);
                for (int v = a; v <= z; v++) {
                    rest.remove(v);
                }
            }
        }
        Integer before = null;
        for (int v : rest) {
            text += zeta(before == null ? signed(v - u) : v - before - 1);
            before = v;
        }
        return text;
    }

    private String runs(TreeSet<Integer> x, TreeSet<Integer> y) {
        String marks = "";
        for (int v : y) {
            marks += x.contains(v) ? "c" : "o";
        }
        List<Integer> lengths = new ArrayList<>();
        char wanted = 'c';
        while (!marks.isEmpty()) {
            int length = 0;
            while (length < marks.length() && marks.charAt(length) == wanted) {
                length++;
            }
            lengths.add(length);
            marks = marks.substring(length);
            wanted = wanted == 'c' ? 'o' : 'c';
        }
        lengths.remove(lengths.size() - 1);
        String text = gamma(lengths.size());
        for (int i = 0; i < lengths.size(); i++) {
            text += gamma(lengths.get(i) - (i == 0 ? 0 : 1));
        }
        return text;
    }

    private List<int[]> intervals(TreeSet<Integer> rest) {
        List<int[]> found = new ArrayList<>();
        for (int a = 0; a < n; a++) {
            for (int z = a; z < n; z++) {
                boolean whole = !rest.contains(a - 1) && !rest.contains(z + 1);
                for (int v = a; v <= z; v++) {
                    whole = whole && rest.contains(v);
                }
                if (whole && z - a + 1 >= least) {
                    found.add(new int[] {a, z});
                }
            }
        }
        return found;
    }

    private static int signed(int s) {
        return s >= 0 ? 2 * s : -2 * s - 1;
    }

    private static String unary(int x) {
        return "0".repeat(x) + "1";
    }

    private static String number(int x, int count) {
        String text = "";
        for (int i = 0; i < count; i++) {
            text = x % 2 + text;
            x /= 2;
        }
        return text;
    }

    private static String gamma(int x) {
        int h = Integer.toBinaryString(x + 1).length() - 1;
        return unary(h) + number(x + 1, h);
    }

    private String zeta(int x) {
        int h = 0;
        while (Math.pow(2, (h + 1) * k) <= x + 1) {
            h++;
        }
        int low = (int) Math.pow(2, h * k);
        return unary(h) + (x + 1 < 2 * low ? number(x + 1 - low, h * k + k - 1) : number(x + 1, h * k + k));
    }

    // Reading

    int offset(int u) {
        return 0 <= u && u <= n ? offsets.get(u) : -1;
    }

    int bit(int p) {
        return 0 <= p && p < stream.length() ? stream.charAt(p) - '0' : -1;
    }

    boolean flip(int p) {
        if (p < 0 || p >= stream.length()) {
            return false;
        }
        stream.setCharAt(p, stream.charAt(p) == '0' ? '1' : '0');
        return true;
    }

    int degree(int u) {
        if (!isNode(u)) {
            return -100;
        }
        Read read = read(u);
        return read.fault != 0 ? -read.fault : read.list.size();
    }

    int successor(int u, int i) {
        if (!isNode(u)) {
            return -1;
        }
        List<Integer> list = new ArrayList<>(read(u).list);
        return 0 <= i && i < list.size() ? list.get(i) : -1;
    }

    int reference(int u) {
        if (!isNode(u)) {
            return -1;
        }
        Read read = read(u);
        return read.fault != 0 ? -1 : read.reference;
    }

    private int place;

    private Read read(int u) {
        int placeBefore = place;
        Read read = new Read();
        try {
            readRecord(u, read);
        } catch (Fault fault) {
            read = new Read();
            read.fault = fault.number;
        }
        place = placeBefore;
        return read;
    }

    private void readRecord(int u, Read read) {
        place = offsets.get(u);
        int d = readGamma();
        if (d > n) {
            throw new Fault(3);
        }
        List<Integer> nodes = new ArrayList<>();
        if (d > 0) {
            readSuccessors(u, d, read, nodes);
        }
        read.list.addAll(nodes);
        if (read.list.size() < nodes.size()) {
            throw new Fault(9);
        }
        if (place != offsets.get(u + 1)) {
            throw new Fault(10);
        }
    }

    private void readSuccessors(int u, int d, Read read, List<Integer> nodes) {
        int r = window > 0 ? readUnary() : 0;
        if (r > window || r > u) {
            throw new Fault(4);
        }
        read.reference = r;
        if (r > 0) {
            Read to = read(u - r);
            if (to.fault != 0 || to.depth >= chain) {
                throw new Fault(5);
            }
            read.depth = 1 + to.depth;
            readCopied(d, new ArrayList<>(to.list), nodes);
        }
        int rest = d - nodes.size();
        if (rest == 0) {
            return;
        }
        int inIntervals = least > 0 ? readIntervals(u, rest, nodes) : 0;
        int before = -1;
        for (int i = 0; i < rest - inIntervals; i++) {
            int v = i == 0 ? u + readSigned(readZeta()) : before + 1 + readZeta();
            if (!isNode(v)) {
                throw new Fault(8);
            }
            nodes.add(v);
            before = v;
        }
    }

    private void readCopied(int d, List<Integer> y, List<Integer> nodes) {
        int count = readGamma();
        int at = 0;
        for (int i = 0; i < count; i++) {
            int length = readGamma() + (i == 0 ? 0 : 1);
            if (at + length > y.size()) {
                throw new Fault(6);
            }
            if (i % 2 == 0) {
                nodes.addAll(y.subList(at, at + length));
            }
            at += length;
        }
        if (count % 2 == 0) {
            nodes.addAll(y.subList(at, y.size()));
        }
        if (nodes.size() > d) {
            throw new Fault(6);
        }
    }

    private int readIntervals(int u, int rest, List<Integer> nodes) {
        int count = readGamma();
        int together = 0;
        int z = 0;
        for (int i = 0; i < count; i++) {
            int a = i == 0 ? u + readSigned(readGamma()) : z + 2 + readGamma();
            if (!isNode(a)) {
                throw new Fault(7);
            }
            int length = readGamma() + least;
            z = a + length - 1;
            together += length;
            if (z > n - 1 || together > rest) {
                throw new Fault(7);
            }
            for (int v = a; v <= z; v++) {
                nodes.add(v);
            }
        }
        return together;
    }

    private static int readSigned(int x) {
        return x % 2 == 0 ? x / 2 : -((x + 1) / 2);
    }

    private int readBit() {
        if (place >= stream.length()) {
            throw new Fault(1);
        }
        return stream.charAt(place++) - '0';
    }

    private int readUnary() {
        int zeros = 0;
        while (readBit() == 0) {
            zeros++;
            if (zeros == 7) {
                throw new Fault(2);
            }
        }
        return zeros;
    }

    private int readNumber(int count) {
        int x = 0;
        for (int i = 0; i < count; i++) {
            x = 2 * x + readBit();
        }
        return x;
    }

    private int readGamma() {
        int h = readUnary();
        return (1 << h) + readNumber(h) - 1;
    }

    private int readZeta() {
        int h = readUnary();
        int low = 1 << h * k;
        int x = readNumber(h * k + k - 1);
        return x >= low ? 2 * x + readBit() - 1 : x + low - 1;
    }

    private List<TreeSet<Integer>> lists() {
        List<TreeSet<Integer>> lists = new ArrayList<>();
        for (int u = 0; u < n; u++) {
            lists.add(read(u).list);
        }
        return lists;
    }

    // Components

    int components() {
        int most = 0;
        for (int v = 0; v < n; v++) {
            most = Math.max(most, component(v) + 1);
        }
        return most;
    }

    int component(int v) {
        if (!isNode(v)) {
            return -1;
        }
        List<TreeSet<Integer>> lists = lists();
        List<TreeSet<Integer>> reached = new ArrayList<>();
        for (int u = 0; u < n; u++) {
            TreeSet<Integer> from = new TreeSet<>();
            follow(lists, u, from);
            reached.add(from);
        }
        int[] least = new int[n];
        for (int u = n - 1; u >= 0; u--) {
            for (int w = n - 1; w >= 0; w--) {
                if (reached.get(u).contains(w) && reached.get(w).contains(u)) {
                    least[u] = w;
                }
            }
        }
        return numbered(lists, least)[v];
    }

    private static void follow(List<TreeSet<Integer>> lists, int u, TreeSet<Integer> seen) {
        if (seen.add(u)) {
            for (int v : lists.get(u)) {
                follow(lists, v, seen);
            }
        }
    }

    private int[] numbered(List<TreeSet<Integer>> lists, int[] least) {
        int[] numbers = new int[n];
        java.util.Arrays.fill(numbers, -1);
        for (int next = 0; next < n; next++) {
            for (int first = 0; first < n; first++) {
                if (least[first] == first && numbers[first] < 0 && ready(lists, least, numbers, first)) {
                    for (int u = 0; u < n; u++) {
                        numbers[u] = least[u] == first ? next : numbers[u];
                    }
                    break;
                }
            }
        }
        return numbers;
    }

    private boolean ready(List<TreeSet<Integer>> lists, int[] least, int[] numbers, int first) {
        for (int u = 0; u < n; u++) {
            if (least[u] == first) {
                for (int v : lists.get(u)) {
                    if (least[v] != first && numbers[v] < 0) {
                        return false;
                    }
                }
            }
        }
        return true;
    }

    // Scores

    boolean prefer(int v, int w) {
        if (!isNode(v) || w < 0 || w > 100) {
            return false;
        }
        int before = weights[v];
        weights[v] = w;
        if (allWeights() == 0) {
            weights[v] = before;
            return false;
        }
        return true;
    }

    private int allWeights() {
        int sum = 0;
        for (int w : weights) {
            sum += w;
        }
        return sum;
    }

    boolean start(int newKind, int newDamping) {
        if (newKind < 0 || newKind > 2 || newDamping < 0 || newDamping > 1000) {
            return false;
        }
        kind = newKind;
        damping = newDamping;
        moved = BigInteger.ZERO;
        scores = new BigInteger[n];
        hubs = new BigInteger[n];
        for (int v = 0; v < n; v++) {
            scores[v] = BigInteger.valueOf(kind == 1 ? 1000000L : 1000000000000L / n);
            hubs[v] = BigInteger.valueOf(kind == 1 ? 1000000L : 0L);
        }
        return true;
    }

    int step(int times) {
        if (times < 0 || times > 20) {
            return -1;
        }
        int made = 0;
        while (made < times) {
            BigInteger[] old = scores;
            if (kind == 0) {
                scores = kind0();
            } else if (kind == 1) {
                kind1();
            } else {
                kind2();
            }
            made++;
            moved = BigInteger.ZERO;
            for (int v = 0; v < n; v++) {
                moved = moved.add(scores[v].subtract(old[v]).abs());
            }
            if (moved.signum() == 0) {
                break;
            }
        }
        return made;
    }

    private static BigInteger big(long x) {
        return BigInteger.valueOf(x);
    }

    private BigInteger[] kind0() {
        List<TreeSet<Integer>> lists = lists();
        BigInteger w = big(allWeights());
        BigInteger z = BigInteger.ZERO;
        BigInteger[] s = new BigInteger[n];
        for (int v = 0; v < n; v++) {
            z = lists.get(v).isEmpty() ? z.add(scores[v]) : z;
            s[v] = BigInteger.ZERO;
        }
        for (int u = 0; u < n; u++) {
            for (int v : lists.get(u)) {
                s[v] = s[v].add(scores[u].divide(big(lists.get(u).size())));
            }
        }
        BigInteger[] made = new BigInteger[n];
        for (int v = 0; v < n; v++) {
            BigInteger left = big(1000 - damping).multiply(big(1000000000)).multiply(big(weights[v])).divide(w);
            BigInteger inner = s[v].add(z.multiply(big(weights[v])).divide(w));
            made[v] = left.add(big(damping).multiply(inner).divide(big(1000)));
        }
        return made;
    }

    private void kind1() {
        List<TreeSet<Integer>> lists = lists();
        BigInteger[] sums = zeros();
        for (int u = 0; u < n; u++) {
            for (int v : lists.get(u)) {
                sums[v] = sums[v].add(hubs[u]);
            }
        }
        scores = brought(sums);
        sums = zeros();
        for (int u = 0; u < n; u++) {
            for (int v : lists.get(u)) {
                sums[u] = sums[u].add(scores[v]);
            }
        }
        hubs = brought(sums);
    }

    private BigInteger[] zeros() {
        BigInteger[] row = new BigInteger[n];
        java.util.Arrays.fill(row, BigInteger.ZERO);
        return row;
    }

    private BigInteger[] brought(BigInteger[] sums) {
        BigInteger m = Collections.max(java.util.Arrays.asList(sums));
        BigInteger[] made = zeros();
        for (int v = 0; v < n && m.signum() != 0; v++) {
            made[v] = sums[v].multiply(big(1000000)).divide(m);
        }
        return made;
    }

    private void kind2() {
        List<TreeSet<Integer>> lists = lists();
        int[] in = new int[n];
        for (TreeSet<Integer> list : lists) {
            for (int v : list) {
                in[v]++;
            }
        }
        hubs = zeros();
        for (int u = 0; u < n; u++) {
            for (int v : lists.get(u)) {
                hubs[u] = hubs[u].add(scores[v].divide(big(in[v])));
            }
        }
        scores = zeros();
        for (int u = 0; u < n; u++) {
            for (int v : lists.get(u)) {
                scores[v] = scores[v].add(hubs[u].divide(big(lists.get(u).size())));
            }
        }
    }

    long score(int v) {
        return isNode(v) ? scores[v].longValueExact() : -1;
    }

    long hub(int v) {
        return isNode(v) ? hubs[v].longValueExact() : -1;
    }

    int top(int place) {
        List<Integer> order = new ArrayList<>();
        for (int v = 0; v < n; v++) {
            order.add(v);
        }
        order.sort(Comparator.comparing((Integer v) -> scores[v]).reversed().thenComparing(Comparator.naturalOrder()));
        return 0 <= place && place < n ? order.get(place) : -1;
    }

    long change() {
        return moved.longValueExact();
    }
}
