import java.util.Random;

/** Long runs of calls on the class and on the model, which must answer alike; the seeds are fixed. */
public final class ModelTest {
    private static final int RUNS = 1500;
    // The last round of calls may go some calls beyond this, but not beyond 512.
    private static final int CALLS = 470;
    private static final Check CHECK = new Check();

    // How often each fault, and each reference, was seen: a run of tests that misses one tests too little.
    private static final int[] FAULTS = new int[11];
    private static final int[] REFERENCES = new int[7];

    private final int run;
    private final Random random;
    private final ArcTape tape;
    private final Model model;
    private int calls = 0;

    private ModelTest(int run) {
        this.run = run;
        random = new Random(run);
        int n = run % 5 == 0 ? random.nextInt(16) - 1 : 12 - random.nextInt(8);
        tape = new ArcTape(n);
        model = new Model(n);
    }

    public static void main(String[] args) {
        for (int run = 0; run < RUNS && CHECK.wrongSoFar() == 0; run++) {
            new ModelTest(run).play();
        }
        if (CHECK.wrongSoFar() == 0) {
            for (int fault = 1; fault <= 10; fault++) {
                CHECK.due("fault " + fault + " was seen", FAULTS[fault] > 20, true);
            }
            for (int r = 0; r <= 6; r++) {
                CHECK.due("reference " + r + " was seen", REFERENCES[r] > 20, true);
            }
        }
        CHECK.finish();
    }

    private void play() {
        // Some graphs are dense, some thin, and most have rows that are like each other, so that references pay.
        int thickness = random.nextInt(5);
        for (int u = 0; u < model.nodes() && calls < CALLS / 3; u++) {
            addRow(u, thickness);
        }
        packSomehow();
        while (calls < CALLS) {
            int what = random.nextInt(20);
            if (what < 7) {
                readNode(someNode());
            } else if (what < 12) {
                flipNear();
            } else if (what < 13) {
                packSomehow();
            } else if (what < 15) {
                changeDraft();
            } else {
                scoresAndParts();
            }
        }
    }

    private void due(String call, long got, long want) {
        calls++;
        CHECK.due("run " + run + ", call " + calls + ": " + call, got, want);
    }

    private void due(String call, boolean got, boolean want) {
        due(call, got ? 1 : 0, want ? 1 : 0);
    }

    private int someNode() {
        return random.nextInt(12) == 0 ? random.nextInt(40) - 10 : random.nextInt(model.nodes());
    }

    private int someNumber(int least, int most) {
        return random.nextInt(25) == 0 ? least - 2 + random.nextInt(most - least + 5) : least + random.nextInt(most - least + 1);
    }

    private void addRow(int u, int thickness) {
        int like = u == 0 || random.nextInt(4) == 0 ? -1 : Math.max(0, u - 1 - random.nextInt(6));
        for (int v = 0; v < model.nodes() && calls < CALLS; v++) {
            boolean there = like >= 0 && !model.add(like, v);
            if (like >= 0 && !there) {
                model.drop(like, v);
            }
            boolean wanted = like >= 0 && random.nextInt(6) != 0 ? there : random.nextInt(6) < thickness;
            if (wanted) {
                due("add(" + u + ", " + v + ")", tape.add(u, v), model.add(u, v));
            }
        }
    }

    private void changeDraft() {
        int u = someNode();
        int v = someNode();
        if (random.nextBoolean()) {
            due("add(" + u + ", " + v + ")", tape.add(u, v), model.add(u, v));
        } else {
            due("drop(" + u + ", " + v + ")", tape.drop(u, v), model.drop(u, v));
        }
    }

    private void packSomehow() {
        int window = someNumber(0, 6);
        int chain = someNumber(0, 3);
        int least = someNumber(0, random.nextBoolean() ? 3 : 9);
        int k = someNumber(1, 4);
        String call = "pack(" + window + ", " + chain + ", " + least + ", " + k + ")";
        due(call, tape.pack(window, chain, least, k), model.pack(window, chain, least, k));
        for (int u = 0; u <= model.nodes() && calls < CALLS; u++) {
            due("offset(" + u + ")", tape.offset(u), model.offset(u));
        }
        for (int u = 0; u < model.nodes() && calls < CALLS; u++) {
            due("reference(" + u + ")", tape.reference(u), model.reference(u));
            REFERENCES[Math.max(0, model.reference(u))]++;
        }
        int p = random.nextInt(model.offset(model.nodes()) + 3) - 1;
        due("bit(" + p + ")", tape.bit(p), model.bit(p));
    }

    private void readNode(int u) {
        int degree = model.degree(u);
        if (degree < 0 && degree >= -10) {
            FAULTS[-degree]++;
        }
        due("degree(" + u + ")", tape.degree(u), degree);
        due("reference(" + u + ")", tape.reference(u), model.reference(u));
        int i = random.nextInt(14) - 1;
        due("successor(" + u + ", " + i + ")", tape.successor(u, i), model.successor(u, i));
        int v = someNode();
        due("offset(" + v + ")", tape.offset(v), model.offset(v));
    }

    /** Flips one to three bits and reads the record in which the first of them is; mostly flips them back. */
    private void flipNear() {
        int length = model.offset(model.nodes());
        int p = random.nextInt(30) == 0 ? random.nextInt(1200) - 100 : random.nextInt(length);
        int count = 1 + random.nextInt(3);
        flipRow(p, count);
        for (int u = 0; u < model.nodes(); u++) {
            if (model.offset(u) <= p && p < model.offset(u + 1)) {
                readNode(u);
                readNode(Math.min(model.nodes() - 1, u + 1 + random.nextInt(3)));
            }
        }
        if (random.nextInt(8) != 0) {
            flipRow(p, count);
        }
    }

    private void flipRow(int p, int count) {
        for (int i = 0; i < count; i++) {
            due("flip(" + (p + i) + ")", tape.flip(p + i), model.flip(p + i));
            due("bit(" + (p + i) + ")", tape.bit(p + i), model.bit(p + i));
        }
    }

    private void scoresAndParts() {
        int v = someNode();
        int w = someNumber(0, random.nextBoolean() ? 2 : 100);
        int kind = someNumber(0, 2);
        int damping = someNumber(0, 1000);
        int times = someNumber(0, random.nextBoolean() ? 3 : 20);
        int k = random.nextInt(14) - 1;
        switch (random.nextInt(6)) {
            case 0 -> due("prefer(" + v + ", " + w + ")", tape.prefer(v, w), model.prefer(v, w));
            case 1 -> due("start(" + kind + ", " + damping + ")", tape.start(kind, damping), model.start(kind, damping));
            case 2 -> {
                due("components()", tape.components(), model.components());
                due("component(" + v + ")", tape.component(v), model.component(v));
            }
            default -> due("step(" + times + ")", tape.step(times), model.step(times));
        }
        due("score(" + v + ")", tape.score(v), model.score(v));
        due("hub(" + v + ")", tape.hub(v), model.hub(v));
        due("top(" + k + ")", tape.top(k), model.top(k));
        due("change()", tape.change(), model.change());
    }
}
