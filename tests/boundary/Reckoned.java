import java.math.BigInteger;
import java.util.Arrays;

/** Counts that the tests reckon for themselves, by other ways than the class. */
final class Reckoned {

    private Reckoned() {
    }

    /** The covers of a rolled board as a product over waves. */
    static String round(int w, int h) {
        double product = 1;
        for (int k = 1; k <= w; k++) {
            for (int j = 1; j <= h; j++) {
                double a = 2 * Math.sin(Math.PI * (2 * k - 1) / w);
                double b = 2 * Math.cos(Math.PI * j / (h + 1));
                product *= Math.sqrt(Math.sqrt(a * a + b * b));
            }
        }
        return String.valueOf(Math.round(product));
    }

    /** The covers of the strips of all lengths, a column after the other. */
    static BigInteger[] strips(int width, int most) {
        BigInteger[] terms = new BigInteger[most + 1];
        BigInteger[] ways = new BigInteger[1 << width];
        Arrays.fill(ways, BigInteger.ZERO);
        ways[0] = BigInteger.ONE;
        for (int length = 0; length <= most; length++) {
            terms[length] = ways[0];
            BigInteger[] more = new BigInteger[1 << width];
            Arrays.fill(more, BigInteger.ZERO);
            for (int mask = 0; mask < 1 << width; mask++) {
                for (int out = 0; out < 1 << width; out++) {
                    if ((mask & out) == 0 && isPairs(mask | out, width)) {
                        more[out] = more[out].add(ways[mask]);
                    }
                }
            }
            ways = more;
        }
        return terms;
    }

    /** Whether the open cells of a column can be taken two by two. */
    private static boolean isPairs(int taken, int width) {
        int open = 0;
        for (int x = 0; x <= width; x++) {
            if (x < width && (taken >> x & 1) == 0) {
                open++;
            } else if (open % 2 == 0) {
                open = 0;
            } else {
                return false;
            }
        }
        return true;
    }

    /** The heaps of a box as a product over its unit boxes. */
    static String boxes(int a, int b, int c) {
        BigInteger top = BigInteger.ONE;
        BigInteger bottom = BigInteger.ONE;
        for (int i = 1; i <= a; i++) {
            for (int j = 1; j <= b; j++) {
                for (int k = 1; k <= c; k++) {
                    top = top.multiply(BigInteger.valueOf(i + j + k - 1));
                    bottom = bottom.multiply(BigInteger.valueOf(i + j + k - 2));
                }
            }
        }
        return top.divide(bottom).toString();
    }
}
