import java.util.Arrays;
import java.util.HashMap;
import java.util.Map;
import java.util.Random;

/**
 * Wide boards, by chance (always the same ones), which OracleTest can't list: covers are counted over sets of cells that
 * are left, heights and numbers are held to what the document says of covers beside each other. An argument tells how
 * many boards.
 */
public final class WideTest {

    private static final int SIDE = 8;
    private static int wrong = 0;
    private static int checks = 0;

    private Tilecount tiles;
    private final Random chance;
    private final long seed;
    private int w;
    private int h;
    private boolean isRolled;
    private long cells;
    private final Map<Long, Long> counted = new HashMap<>();

    private WideTest(long seed) {
        this.seed = seed;
        chance = new Random(seed * 104729);
    }

    public static void main(String[] args) {
        long boards = args.length > 0 ? Long.parseLong(args[0]) : 400;
        for (long seed = 0; seed < boards; seed++) {
            WideTest test = new WideTest(seed);
            test.makeBoard();
            test.counts();
            test.numbers();
            test.roles();
        }
        System.out.println(boards + " wide boards, " + checks + " checks, " + wrong + " wrong");
        if (wrong > 0) {
            System.exit(1);
        }
    }

    private void due(String what, Object got, Object want) {
        checks++;
        if (!want.equals(got)) {
            wrong++;
            System.out.println("board " + seed + " (" + w + " by " + h + (isRolled ? ", rolled, " : ", ")
                + Long.toHexString(cells) + "): " + what + " answered " + got + ", due is " + want);
        }
    }

    private void makeBoard() {
        w = 5 + chance.nextInt(4);
        h = 5 + chance.nextInt(4);
        isRolled = w % 2 == 0 && chance.nextBoolean();
        for (int y = 0; y < h; y++) {
            for (int x = 0; x < w; x++) {
                cells |= bit(x, y);
            }
        }
        int pairs = chance.nextInt(3) * chance.nextInt(4);
        for (int i = 0; i < pairs; i++) {
            cut(chance.nextInt(w), chance.nextInt(h), i % 2);
        }
        if (Long.bitCount(cells) % 2 != 0) {
            cut(w - 1, h - 1, (w + h) % 2);
        }
    }

    /** Takes a cell away, if it is dark or light as is wanted, so that there are covers often. */
    private void cut(int x, int y, int colour) {
        if ((x + y) % 2 == colour && (cells & bit(x, y)) != 0) {
            cells &= ~bit(x, y);
        }
    }

    /** A new object with the board, so that none is asked for more than the document allows. */
    private void renew() {
        tiles = new Tilecount();
        tiles.board(w, h);
        tiles.roll(isRolled);
        for (int y = 0; y < h; y++) {
            for (int x = 0; x < w; x++) {
                if ((cells & bit(x, y)) == 0) {
                    tiles.cut(x, y);
                }
            }
        }
    }

    private static long bit(int x, int y) {
        return 1L << (SIDE * y + x);
    }

    private int right(int x) {
        return x + 1 < w ? x + 1 : isRolled ? 0 : -1;
    }

    /** The bit of a cell beside or below, 0 if there is none. */
    private long neighbour(int cell, int way) {
        int x = cell % SIDE;
        int y = cell / SIDE;
        if (way == 0) {
            return right(x) < 0 ? 0 : bit(right(x), y) & cells;
        }
        if (way == 1) {
            return y + 1 < h ? bit(x, y + 1) & cells : 0;
        }
        return isRolled && x == 0 ? bit(w - 1, y) & cells : 0;
    }

    /** How many covers the cells that are left have: the first one goes with one of three others. */
    private long covers(long left) {
        if (left == 0) {
            return 1;
        }
        Long known = counted.get(left);
        if (known != null) {
            return known;
        }
        int first = Long.numberOfTrailingZeros(left);
        long sum = 0;
        for (int way = 0; way < 3; way++) {
            long other = neighbour(first, way) & left;
            if (other != 0 && other != 1L << first) {
                sum += covers(left & ~(1L << first) & ~other);
            }
        }
        counted.put(left, sum);
        return sum;
    }

    private String text(int signs) {
        StringBuilder text = new StringBuilder();
        for (int i = 0; i < signs; i++) {
            text.append(tiles.signAt(i));
        }
        return text.toString();
    }

    private void counts() {
        renew();
        long all = covers(cells);
        due("covers()", text(tiles.covers()), String.valueOf(all));
        if (!isRolled && tiles.holes() == 0) {
            due("bySigns()", text(tiles.bySigns()), String.valueOf(all));
        }
        for (int i = 0; i < 6; i++) {
            int x = chance.nextInt(w);
            int y = chance.nextInt(h);
            boolean isAcross = chance.nextBoolean();
            long both = bit(x, y) | neighbour(SIDE * y + x, isAcross ? 0 : 1);
            if ((cells & bit(x, y)) != 0 && Long.bitCount(both) == 2) {
                due("having()", text(tiles.having(x, y, isAcross)), String.valueOf(covers(cells & ~both)));
            }
        }
        due("isSound()", tiles.isSound(), true);
    }

    private String codes() {
        StringBuilder codes = new StringBuilder();
        for (int i = 0; i < SIDE * SIDE; i++) {
            codes.append((cells >>> i & 1) != 0 ? tiles.other(i % SIDE, i / SIDE) : '.');
        }
        return codes.toString();
    }

    /** The number of covers ahead of one: those that have a way ahead at its first cell that differs. */
    private long numberOf(String codes) {
        long left = cells;
        long sum = 0;
        while (left != 0) {
            int first = Long.numberOfTrailingZeros(left);
            int taken = "esw".indexOf(codes.charAt(first));
            for (int way = 0; way < taken; way++) {
                long other = neighbour(first, way) & left;
                if (other != 0) {
                    sum += covers(left & ~(1L << first) & ~other);
                }
            }
            left &= ~(1L << first) & ~neighbour(first, taken);
        }
        return sum;
    }

    private void numbers() {
        long all = covers(cells);
        if (all == 0) {
            return;
        }
        for (int i = 0; i < 2; i++) {
            renew();
            long number = i == 0 ? all - 1 : Math.floorMod(chance.nextLong(), all);
            tiles.draw(number);
            due("number()", text(tiles.number()), String.valueOf(number));
            due("the number of the cover", numberOf(codes()), number);
            due("next()", tiles.next(), number + 1 < all);
            due("the number of the next cover", numberOf(codes()), (number + 1) % all);
            int flips = tiles.flips();
            if (flips > 0) {
                tiles.flip(chance.nextInt(flips));
                due("the number of the flipped cover", text(tiles.number()), String.valueOf(numberOf(codes())));
            }
        }
    }

    private boolean pair(int dark, int[] mate, boolean[] seen, long on) {
        for (int step = 0; step < 4; step++) {
            int x = dark % SIDE + new int[] {1, -1, 0, 0}[step];
            int y = dark / SIDE + new int[] {0, 0, 1, -1}[step];
            x = isRolled ? Math.floorMod(x, w) : x;
            if (x < 0 || x >= w || y < 0 || y >= h || (on & bit(x, y)) == 0 || seen[SIDE * y + x]) {
                continue;
            }
            int light = SIDE * y + x;
            seen[light] = true;
            if (mate[light] < 0 || pair(mate[light], mate, seen, on)) {
                mate[light] = dark;
                return true;
            }
        }
        return false;
    }

    private int pieces(long on) {
        int[] mate = new int[SIDE * SIDE];
        Arrays.fill(mate, -1);
        int many = 0;
        for (int i = 0; i < SIDE * SIDE; i++) {
            if ((on >>> i & 1) != 0 && (i % SIDE + i / SIDE) % 2 == 0 && pair(i, mate, new boolean[SIDE * SIDE], on)) {
                many++;
            }
        }
        return many;
    }

    /** Takes cells away until some stay free, and asks for each whether as many pieces can be put without it. */
    private void roles() {
        for (int i = 0; i < 12; i++) {
            cut(chance.nextInt(w), chance.nextInt(h), chance.nextInt(2));
        }
        renew();
        int most = pieces(cells);
        due("free()", tiles.free(), Long.bitCount(cells) - 2 * most);
        for (int i = 0; i < SIDE * SIDE; i++) {
            if ((cells >>> i & 1) != 0) {
                boolean isFree = pieces(cells & ~(1L << i)) == most;
                due("role of " + i, tiles.role(i % SIDE, i / SIDE) == 'f', isFree);
            }
        }
        due("isSound()", tiles.isSound(), true);
    }
}
