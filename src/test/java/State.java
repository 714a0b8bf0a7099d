/** All that can be seen of an object, as a text. */
final class State {
    private State() {
    }

    /** What is seen without changing anything; some 100 calls for a small graph. */
    static String shown(ArcTape x, int n) {
        return stream(x, n) + lists(x, n) + scores(x, n);
    }

    private static String lists(ArcTape x, int n) {
        StringBuilder text = new StringBuilder();
        for (int u = 0; u < n; u++) {
            text.append("; list of ").append(u).append(": ").append(Tapes.list(x, u));
            text.append(", reference ").append(x.reference(u)).append(", component ").append(x.component(u));
        }
        return text.append("; components ").append(x.components()).toString();
    }

    static String stream(ArcTape x, int n) {
        StringBuilder text = new StringBuilder("offsets");
        for (int u = 0; u <= n; u++) {
            text.append(' ').append(x.offset(u));
        }
        return text.append("; stream ").append(Tapes.bits(x, 0, x.offset(n) + 1)).toString();
    }

    static String scores(ArcTape x, int n) {
        StringBuilder text = new StringBuilder("; change ").append(x.change());
        for (int v = 0; v < n; v++) {
            text.append("; node ").append(v).append(": score ").append(x.score(v)).append(", hub ").append(x.hub(v));
            text.append(", top ").append(x.top(v));
        }
        return text.toString();
    }

    /** What shows only when the object is changed: the packing, kind, damping, weights, the draft; the object is done for then. */
    static String hidden(ArcTape x, int n) {
        // The stream is as it was after both, but a program that keeps its lists reads them again.
        x.flip(0);
        x.flip(0);
        StringBuilder text = new StringBuilder("read again").append(lists(x, n));
        text.append("; a step: ").append(x.step(1)).append(scores(x, n));
        x.start(0, 0);
        x.step(1);
        text.append("; weights").append(scores(x, n));
        x.pack(0, 0, 0, 1);
        return text.append("; draft: ").append(stream(x, n)).toString();
    }
}
