/** The four numbers of a packing. */
record Packing(int window, int chain, int least, int k) {
    int of(ArcTape x) {
        return x.pack(window, chain, least, k);
    }
}
