/** The codes of the numbers 0 .. 22, written out as the document defines them. */
final class Codes {
    static final int MOST = 22;

    private static final String[] UNARY = {"1", "01", "001", "0001", "00001", "000001", "0000001"};

    /** For each number its code in zeta with K 1, 2, 3 and 4; with K 1 it is that in gamma. */
    private static final String[][] ZETA = {
        {"1", "10", "100", "1000"},
        {"010", "110", "1010", "10010"},
        {"011", "111", "1011", "10011"},
        {"00100", "01000", "1100", "10100"},
        {"00101", "01001", "1101", "10101"},
        {"00110", "01010", "1110", "10110"},
        {"00111", "01011", "1111", "10111"},
        {"0001000", "011000", "0100000", "11000"},
        {"0001001", "011001", "0100001", "11001"},
        {"0001010", "011010", "0100010", "11010"},
        {"0001011", "011011", "0100011", "11011"},
        {"0001100", "011100", "0100100", "11100"},
        {"0001101", "011101", "0100101", "11101"},
        {"0001110", "011110", "0100110", "11110"},
        {"0001111", "011111", "0100111", "11111"},
        {"000010000", "00100000", "01010000", "010000000"},
        {"000010001", "00100001", "01010001", "010000001"},
        {"000010010", "00100010", "01010010", "010000010"},
        {"000010011", "00100011", "01010011", "010000011"},
        {"000010100", "00100100", "01010100", "010000100"},
        {"000010101", "00100101", "01010101", "010000101"},
        {"000010110", "00100110", "01010110", "010000110"},
        {"000010111", "00100111", "01010111", "010000111"},
    };

    private Codes() {
    }

    static String unary(int x) {
        return UNARY[x];
    }

    static String gamma(int x) {
        return ZETA[x][0];
    }

    /** Several numbers in gamma, one behind the other. */
    static String gammas(int... numbers) {
        StringBuilder text = new StringBuilder();
        for (int x : numbers) {
            text.append(gamma(x));
        }
        return text.toString();
    }

    static String zeta(int x, int k) {
        return ZETA[x][k - 1];
    }

    /** What may be below 0, as the number that is written for it; from -11 to 11. */
    static int signed(int s) {
        int[] below = {0, 1, 3, 5, 7, 9, 11, 13, 15, 17, 19, 21};
        int[] notBelow = {0, 2, 4, 6, 8, 10, 12, 14, 16, 18, 20, 22};
        return s < 0 ? below[-s] : notBelow[s];
    }
}
