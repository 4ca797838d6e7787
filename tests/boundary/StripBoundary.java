import java.math.BigInteger;

/** The boundaries of the parts 5 and 6 and of the promises 36 to 40: strips, hexagons. */
final class StripBoundary extends Checks {

    private static final String STRIP = "A strip has a width, 1 to 6, and a length n, from 0 on, all cells, not rolled;";
    private static final String RULE = "The rule of a width is the least number d, its order, and numbers f of 1 to f of d, "
        + "so that for each n from d on the covers are the sum of f of i times those of the length n less i, i from 1 to d.";
    private static final String BAD_NUMBER = "Throws `IllegalArgumentException` if a number is out of range";
    private static final String HEAP = "A heap is some unit boxes in a box of a, b and c, so that with each box all that are "
        + "nearer to the one corner, in one direction alone, are there, too.";
    private static final int[] ORDERS = {0, 2, 2, 4, 4, 8, 8};

    private static String strip(Tilecount t, int width, int length) {
        return text(t, t.strip(width, length));
    }

    private static String rule(Tilecount t, int width, int index) {
        return text(t, t.rule(width, index));
    }

    private static String hexagon(Tilecount t, int a, int b, int c) {
        return text(t, t.hexagon(a, b, c));
    }

    private static String heaps(Tilecount t, int a, int b, int c) {
        return text(t, t.heaps(a, b, c));
    }

    // ---- part 5 ----

    @Says(at = 0, is = "that of the length 0 has one cover.")
    static void aStripWithoutALengthHasOneCover() {
        for (int width = 1; width <= 6; width++) {
            due(strip(new Tilecount(), width, 0), "1");
            due(strip(new Tilecount(), width, 1), width % 2 == 0 ? "1" : "0");
        }
    }

    @Says(at = 0, is = STRIP)
    static void aStripHasTheCoversOfAWholeFlatBoard() {
        for (int width = 1; width <= 6; width++) {
            for (int length = 1; length <= 8; length++) {
                Tilecount t = of(length, width);
                String covers = text(t, t.covers());
                t.cut(0, 0);
                due(strip(t, width, length), covers);
            }
        }
        due(strip(rolled(4, 2), 2, 4), "5");
    }

    @Says(at = 0, is = RULE)
    static void theRuleHoldsFromItsOrderOn() {
        for (int width = 1; width <= 6; width++) {
            BigInteger[] terms = Reckoned.strips(width, 60);
            Tilecount t = new Tilecount();
            for (int n = ORDERS[width]; n <= 60; n++) {
                BigInteger sum = BigInteger.ZERO;
                for (int i = 1; i <= ORDERS[width]; i++) {
                    sum = sum.add(new BigInteger(rule(new Tilecount(), width, i)).multiply(terms[n - i]));
                }
                due(sum, terms[n]);
            }
            due(t.order(width), ORDERS[width]);
        }
    }

    @Says(at = 0, is = RULE)
    static void noSmallerOrderHasARule() {
        for (int width = 1; width <= 6; width++) {
            BigInteger[] terms = Reckoned.strips(width, 2 * ORDERS[width]);
            due(isRegular(terms, ORDERS[width]), true);
        }
    }

    /** Whether the table of the terms n and m on has its full rank, so that none of its columns comes of the others. */
    private static boolean isRegular(BigInteger[] terms, int size) {
        BigInteger prime = BigInteger.valueOf(1000000007L);
        BigInteger[][] table = new BigInteger[size][size];
        for (int i = 0; i < size * size; i++) {
            table[i / size][i % size] = terms[i / size + i % size].mod(prime);
        }
        for (int column = 0; column < size; column++) {
            int pivot = column;
            while (pivot < size && table[pivot][column].signum() == 0) {
                pivot++;
            }
            if (pivot == size) {
                return false;
            }
            BigInteger[] top = table[pivot];
            table[pivot] = table[column];
            table[column] = top;
            BigInteger inverse = top[column].modInverse(prime);
            for (int row = column + 1; row < size; row++) {
                BigInteger factor = table[row][column].multiply(inverse);
                for (int i = 0; i < size; i++) {
                    table[row][i] = table[row][i].subtract(factor.multiply(top[i])).mod(prime);
                }
            }
        }
        return true;
    }

    // ---- 36 ----

    @Says(at = 36, is = {"Puts how many covers a strip has into the text.", "Returns how many signs the text has then."})
    static void theLongestStripsOfEachWidth() {
        for (int width = 1; width <= 6; width++) {
            BigInteger[] terms = Reckoned.strips(width, 300);
            due(strip(new Tilecount(), width, 300), terms[300].toString());
            due(strip(new Tilecount(), width, 299), terms[299].toString());
        }
        due(new Tilecount().strip(1, 299), 1);
        due(new Tilecount().strip(6, 0), 1);
    }

    @Says(at = 36, is = "`width`: 1 to 6")
    static void aStripIsOneToSixWide() {
        range(BAD, () -> busy(of(4, 4)), 1, 6, (t, n) -> t.strip(n, 8));
    }

    @Says(at = 36, is = "`length`: 0 to 300")
    static void aStripIsNoughtToThreeHundredLong() {
        range(BAD, () -> busy(of(4, 4)), 0, 300, (t, n) -> t.strip(2, n));
    }

    @Says(at = 36, is = BAD_NUMBER)
    static void aStripThatCantBeIsRefused() {
        refused(BAD, () -> busy(of(4, 4)), t -> t.strip(0, 0), t -> t.strip(7, 300), t -> t.strip(6, 301),
            t -> t.strip(1, -1), t -> t.strip(7, -1), t -> t.strip(0, 301));
    }

    // ---- 37 ----

    @Says(at = 37, is = {"Returns the order of the rule of a width.", "`width`: 1 to 6"})
    static void thereAreOrdersOfTheWidthsOneToSix() {
        for (int width = 1; width <= 6; width++) {
            due(new Tilecount().order(width), ORDERS[width]);
        }
        range(BAD, () -> busy(of(4, 4)), 1, 6, Tilecount::order);
    }

    @Says(at = 37, is = BAD_NUMBER)
    static void theOrderOfAnotherWidthIsRefused() {
        refused(BAD, () -> laden(rolled(4, 4)), t -> t.order(0), t -> t.order(7), t -> t.order(-1));
    }

    // ---- 38 ----

    @Says(at = 38, is = {"Puts a number of the rule of a width into the text.", "Returns how many signs the text has then."})
    static void theNumbersOfARuleCanBeNoughtOrBelow() {
        due(rule(new Tilecount(), 1, 1), "0");
        due(rule(new Tilecount(), 1, 2), "1");
        due(rule(new Tilecount(), 3, 4), "-1");
        due(rule(new Tilecount(), 5, 4), "-32");
        due(rule(new Tilecount(), 6, 8), "-1");
    }

    @Says(at = 38, is = "`width`: 1 to 6")
    static void aRuleIsThatOfAWidthOfOneToSix() {
        range(BAD, () -> busy(of(4, 4)), 1, 6, (t, n) -> t.rule(n, 1));
    }

    @Says(at = 38, is = "`index`: which f, from 1")
    static void theNumbersGoFromOneToTheOrder() {
        for (int width = 1; width <= 6; width++) {
            int w = width;
            range(INDEX, () -> laden(of(4, 4)), 1, ORDERS[width], (t, n) -> t.rule(w, n));
        }
    }

    @Says(at = 38, is = BAD_NUMBER)
    static void aRuleOfAnotherWidthIsRefusedAheadOfAnIndex() {
        refused(BAD, () -> busy(of(4, 4)), t -> t.rule(0, 1), t -> t.rule(7, 1), t -> t.rule(0, 0), t -> t.rule(7, 9),
            t -> t.rule(-1, -1));
    }

    @Says(at = 38, is = "Throws `IndexOutOfBoundsException` if there is no such one")
    static void aNumberBeyondTheOrderIsRefused() {
        refused(INDEX, () -> busy(of(4, 4)), t -> t.rule(1, 3), t -> t.rule(2, 3), t -> t.rule(3, 5), t -> t.rule(4, 5),
            t -> t.rule(5, 9), t -> t.rule(6, 9), t -> t.rule(6, 0), t -> t.rule(1, -1));
    }

    // ---- part 6 ----

    @Says(at = 0, is = {"A hexagon of triangles of the side 1 has sides of a, b, c, a, b and c;",
        "a diamond is two triangles with a common side."})
    static void theSmallestHexagonHasTwoCovers() {
        due(hexagon(new Tilecount(), 1, 1, 1), "2");
        due(hexagon(new Tilecount(), 2, 1, 1), "3");
        due(hexagon(new Tilecount(), 1, 2, 1), "3");
        due(hexagon(new Tilecount(), 1, 1, 2), "3");
        due(hexagon(new Tilecount(), 2, 2, 2), "20");
    }

    @Says(at = 0, is = HEAP)
    static void aHeapCanBeEmptyOrFull() {
        due(heaps(new Tilecount(), 1, 1, 1), "2");
        due(heaps(new Tilecount(), 1, 1, 8), "9");
        due(heaps(new Tilecount(), 1, 8, 1), "9");
        due(heaps(new Tilecount(), 8, 1, 1), "9");
        due(heaps(new Tilecount(), 1, 2, 2), "6");
        due(heaps(new Tilecount(), 2, 2, 2), "20");
    }

    // ---- 39 ----

    @Says(at = 39, is = {"Puts how many covers by diamonds a hexagon has into the text, by ways that do not cross.",
        "Returns how many signs the text has then."})
    static void hexagonsFromTheSmallestToTheGreatest() {
        for (int i = 0; i < 512; i++) {
            due(hexagon(new Tilecount(), i / 64 + 1, i / 8 % 8 + 1, i % 8 + 1), Reckoned.boxes(i / 64 + 1, i / 8 % 8 + 1, i % 8 + 1));
        }
    }

    @Says(at = 39, is = "`a`: 1 to 8")
    static void theFirstSideOfAHexagonIsOneToEight() {
        range(BAD, () -> busy(of(4, 4)), 1, 8, (t, n) -> t.hexagon(n, 8, 1));
    }

    @Says(at = 39, is = "`b`: 1 to 8")
    static void theSecondSideOfAHexagonIsOneToEight() {
        range(BAD, () -> busy(of(4, 4)), 1, 8, (t, n) -> t.hexagon(1, n, 8));
    }

    @Says(at = 39, is = "`c`: 1 to 8")
    static void theThirdSideOfAHexagonIsOneToEight() {
        range(BAD, () -> busy(of(4, 4)), 1, 8, (t, n) -> t.hexagon(8, 1, n));
    }

    @Says(at = 39, is = BAD_NUMBER)
    static void aHexagonThatCantBeIsRefused() {
        refused(BAD, () -> busy(of(4, 4)), t -> t.hexagon(0, 0, 0), t -> t.hexagon(9, 9, 9), t -> t.hexagon(0, 9, 1),
            t -> t.hexagon(8, 8, 9), t -> t.hexagon(0, 8, 8), t -> t.hexagon(8, 0, 8));
    }

    // ---- 40 ----

    @Says(at = 40, is = {"Puts how many heaps a box has into the text.", "Returns how many signs the text has then."})
    static void boxesFromTheSmallestToTheGreatest() {
        for (int i = 0; i < 512; i++) {
            due(heaps(new Tilecount(), i / 64 + 1, i / 8 % 8 + 1, i % 8 + 1), Reckoned.boxes(i / 64 + 1, i / 8 % 8 + 1, i % 8 + 1));
        }
    }

    @Says(at = 40, is = "`a`: 1 to 8")
    static void theFirstSideOfABoxIsOneToEight() {
        range(BAD, () -> busy(of(4, 4)), 1, 8, (t, n) -> t.heaps(n, 8, 1));
    }

    @Says(at = 40, is = "`b`: 1 to 8")
    static void theSecondSideOfABoxIsOneToEight() {
        range(BAD, () -> busy(of(4, 4)), 1, 8, (t, n) -> t.heaps(1, n, 8));
    }

    @Says(at = 40, is = "`c`: 1 to 8")
    static void theThirdSideOfABoxIsOneToEight() {
        range(BAD, () -> busy(of(4, 4)), 1, 8, (t, n) -> t.heaps(8, 1, n));
    }

    @Says(at = 40, is = BAD_NUMBER)
    static void aBoxThatCantBeIsRefused() {
        refused(BAD, () -> busy(of(4, 4)), t -> t.heaps(0, 0, 0), t -> t.heaps(9, 9, 9), t -> t.heaps(0, 9, 1),
            t -> t.heaps(8, 8, 9), t -> t.heaps(0, 8, 8), t -> t.heaps(8, 0, 8));
    }
}
