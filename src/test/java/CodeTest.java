/** What the document says of the codes, as they are written and as they are read. */
public final class CodeTest {
    public static void main(String[] args) {
        Sentences.test(CodeTest.class);
    }

    /** A graph with one arc whose number, v - u as it is written, is x. */
    private static ArcTape oneArc(int x, Packing packing) {
        return Tapes.packed(packing, 12, Tapes.row(from(x), to(x)));
    }

    private static int from(int x) {
        return x % 2 == 0 ? 0 : (x + 1) / 2;
    }

    private static int to(int x) {
        return x % 2 == 0 ? x / 2 : 0;
    }

    @Sentence("UNARY: x bits 0, then a bit 1.")
    static void unary(Check check) {
        // Node r has what node 0 has, and the nodes between have nothing, so r is the reference.
        for (int r = 1; r <= 6; r++) {
            ArcTape x = Tapes.packed(new Packing(6, 1, 0, 1), 12, Tapes.row(0, 0, 3, 5, 7, 9, 11), Tapes.row(r, 0, 3, 5, 7, 9, 11));
            check.due("r = " + r, Tapes.record(x, r), Codes.gamma(6) + Codes.unary(r) + "1");
            check.due("list", Tapes.list(x, r), "0,3,5,7,9,11");
            check.due("reference(" + r + ")", x.reference(r), r);
        }
        ArcTape x = Tapes.packed(new Packing(6, 1, 0, 1), 12, Tapes.row(0, 0));
        check.due("r = 0", Tapes.record(x, 0), Codes.gamma(1) + "1" + "1");
    }

    @Sentence("GAMMA: let h be the greatest number with 2^h <= x + 1; h in unary, then the lowest h bits of x + 1.")
    static void gammaOfDegrees(Check check) {
        for (int d = 0; d <= 12; d++) {
            ArcTape x = new ArcTape(12);
            for (int v = 0; v < d; v++) {
                x.add(0, v);
            }
            x.pack(0, 0, 0, 1);
            // 0 - 0 in zeta, and no number left out between the others.
            check.due("d = " + d, Tapes.record(x, 0), Codes.gamma(d) + "111111111111".substring(0, d));
            check.due("degree", x.degree(0), d);
        }
    }

    @Sentence("GAMMA: let h be the greatest number with 2^h <= x + 1; h in unary, then the lowest h bits of x + 1.")
    static void gammaOfIntervals(Check check) {
        for (int x = 0; x <= Codes.MOST; x++) {
            ArcTape tape = oneArc(x, new Packing(0, 0, 1, 4));
            // d = 1, one interval, where it begins, and that it has one number.
            check.due("first number " + x, Tapes.record(tape, from(x)), Codes.gammas(1, 1, x, 0));
            check.due("list", Tapes.list(tape, from(x)), Integer.toString(to(x)));
        }
    }

    @Sentence("ZETA, with a number K of 1 .. 4: let h be the greatest number with 2^(hK) <= x + 1; h in unary, then, if x + 1 < 2^(hK + 1), "
        + "the number x + 1 - 2^(hK) in hK + K - 1 bits, else x + 1 in hK + K bits.")
    static void zeta(Check check) {
        for (int k = 1; k <= 4; k++) {
            for (int x = 0; x <= Codes.MOST; x++) {
                ArcTape tape = oneArc(x, new Packing(0, 0, 0, k));
                check.due("K " + k + ", number " + x, Tapes.record(tape, from(x)), Codes.gamma(1) + Codes.zeta(x, k));
                check.due("list", Tapes.list(tape, from(x)), Integer.toString(to(x)));
            }
        }
    }

    @Sentence("every other one, v, in zeta as v - w - 1")
    static void zetaBehindTheFirst(Check check) {
        for (int k = 1; k <= 4; k++) {
            for (int x = 0; x <= 10; x++) {
                ArcTape tape = Tapes.packed(new Packing(0, 0, 0, k), 12, Tapes.row(0, 0, x + 1));
                check.due("K " + k + ", number " + x, Tapes.record(tape, 0), Codes.gamma(2) + Codes.zeta(0, k) + Codes.zeta(x, k));
                check.due("list", Tapes.list(tape, 0), "0," + (x + 1));
            }
        }
    }

    @Sentence("(Reading it: behind the unary part hK + K - 1 bits are taken as a number, and when that is 2^(hK) or more, one bit more.)")
    static void readingZeta(Check check) {
        // The stream ends with the number, or one bit before its end: then its last bit is missed. No such number is a node.
        for (int k = 1; k <= 4; k++) {
            for (int h = 4; h <= 6; h++) {
                Packing packing = new Packing(0, 0, 0, k);
                String begin = Codes.gamma(1) + Codes.unary(h);
                String low = "0".repeat(h * k + k - 1);
                String high = "0".repeat(k == 1 ? h : k - 2) + "1" + "0".repeat(k == 1 ? 0 : h * k);
                check.due("K " + k + ", h " + h + ", 0", Tapes.ending(packing, 5, begin + low).degree(5), -8);
                check.due("K " + k + ", h " + h + ", a bit less", Tapes.ending(packing, 5, begin + low.substring(1)).degree(5), -1);
                if (k > 1) {
                    String below = low.substring(0, k - 1) + "1".repeat(h * k);
                    check.due("K " + k + ", h " + h + ", below 2^(hK)", Tapes.ending(packing, 5, begin + below).degree(5), -8);
                    check.due("K " + k + ", h " + h + ", 2^(hK)", Tapes.ending(packing, 5, begin + high).degree(5), -1);
                    check.due("K " + k + ", h " + h + ", 2^(hK) and a bit", Tapes.ending(packing, 5, begin + high + "1").degree(5), -8);
                }
            }
        }
    }

    @Sentence("In a number's bits the highest comes first.")
    static void highestFirst(Check check) {
        ArcTape x = Tapes.packed(new Packing(0, 0, 0, 3), 12, Tapes.row(0, 0, 1, 2, 3, 8));
        // d + 1 = 6 is 110; 0, 0, 0 and 0 in two bits; 8 - 3 - 1 + 1 = 5 is 101 and 5 < 2 * 1 is not so: three bits.
        check.due("record of 0", Tapes.record(x, 0), "00110" + "100" + "100" + "100" + "100" + "1101");
        ArcTape y = Tapes.packed(new Packing(0, 0, 0, 4), 12, Tapes.row(0, 0, 6));
        // 6 - 0 - 1 + 1 = 6 is 0110.
        check.due("record of 0", Tapes.record(y, 0), "011" + "1000" + "10110");
    }

    @Sentence("A number s that may be below 0 is written as x = 2s if s >= 0, else as x = -2s - 1.")
    static void signs(Check check) {
        for (int u = 0; u < 12; u++) {
            for (int v = 0; v < 12; v++) {
                ArcTape x = Tapes.packed(new Packing(0, 0, 0, 2), 12, Tapes.row(u, v));
                check.due(v + " - " + u + " in zeta", Tapes.record(x, u), Codes.gamma(1) + Codes.zeta(Codes.signed(v - u), 2));
                check.due("list", Tapes.list(x, u), Integer.toString(v));
                x.pack(0, 0, 1, 2);
                check.due(v + " - " + u + " in gamma", Tapes.record(x, u), Codes.gammas(1, 1, Codes.signed(v - u), 0));
                check.due("list", Tapes.list(x, u), Integer.toString(v));
            }
        }
    }
}
