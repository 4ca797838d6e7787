import java.util.Arrays;
import java.util.NoSuchElementException;

/** Boards covered in every way; ../shared/DOC.md says what each call of the face must do. */
public final class Tilecount {

    private static final int EXACT_CELLS = 24;
    private static final int LOOP_CELLS = 36;
    private static final int TEXT_ROOM = 320;
    private static final int SAMPLES = 12;

    private final Board ground;
    private final Front front;
    private final Cover cover;
    private final Heights heights;
    private final Determinant determinant;
    private final Pairing pairing;
    private final Kinds kinds;
    private final Exact exactly;
    private final Growth growth;
    private final RooksAndLoops walks;
    private final BigNumber answer;
    private final BigNumber check;
    private final char[] text;
    private int textLength;

    public Tilecount() {
        ground = new Board();
        front = new Front(ground);
        cover = new Cover(ground);
        heights = new Heights(ground);
        determinant = new Determinant();
        pairing = new Pairing(ground);
        kinds = new Kinds();
        exactly = new Exact(ground, kinds);
        growth = new Growth();
        walks = new RooksAndLoops(ground);
        answer = new BigNumber();
        check = new BigNumber();
        text = new char[TEXT_ROOM];
        textLength = 0;
    }

    // ---- boards ----

    public int board(int width, int height) throws IllegalArgumentException {
        if (!isFrom(1, width, Board.SIDE) || !isFrom(1, height, Board.SIDE)) {
            throw new IllegalArgumentException("a board is 1 to 8 wide and 1 to 8 high");
        }
        ground.tell(width, height, Board.rectangleOf(width, height));
        cover.forget();
        return ground.size();
    }

    public int form(char kind, int n) throws IllegalArgumentException {
        if (!Board.isForm(kind, n)) {
            throw new IllegalArgumentException("there is no such form");
        }
        int side = kind == 'a' ? 2 * n : n;
        ground.tell(side, side, Board.formCells(kind, n));
        cover.forget();
        return ground.size();
    }

    public int cut(int x, int y) throws IndexOutOfBoundsException {
        if (!ground.holds(x, y)) {
            throw new IndexOutOfBoundsException("the board has no such cell");
        }
        ground.change(x, y);
        cover.forget();
        return ground.size();
    }

    public int fill(int x, int y) throws IndexOutOfBoundsException {
        if (!ground.isWithin(x, y) || ground.holds(x, y)) {
            throw new IndexOutOfBoundsException("no such cell is missing");
        }
        ground.change(x, y);
        cover.forget();
        return ground.size();
    }

    public boolean roll(boolean isRolled) throws UnsupportedOperationException {
        if (isRolled && !ground.canBeRolled()) {
            throw new UnsupportedOperationException("only an even width of 4 at least can be rolled");
        }
        boolean wasRolled = ground.isRolled;
        ground.turnRound(isRolled);
        cover.forget();
        return wasRolled;
    }

    public int cells(char what) throws IllegalArgumentException {
        if (what != 'a' && what != 'd') {
            throw new IllegalArgumentException("cells are told by 'a' or 'd'");
        }
        return what == 'a' ? ground.size() : Long.bitCount(ground.cells & Board.DARK);
    }

    public boolean has(int x, int y) {
        return ground.holds(x, y);
    }

    public int parts() {
        return ground.countParts();
    }

    public int holes() {
        return ground.countHoles();
    }

    // ---- counts ----

    public int covers() {
        return say(front.total());
    }

    public int bySigns() throws UnsupportedOperationException {
        if (!ground.isPlain()) {
            throw new UnsupportedOperationException("the board is rolled or has a hole");
        }
        return say(determinant.countCovers(ground));
    }

    public int having(int x, int y, boolean isAcross) throws IndexOutOfBoundsException {
        if (!ground.isPiece(x, y, isAcross)) {
            throw new IndexOutOfBoundsException("there is no such piece");
        }
        front.fillHaving();
        return say(front.withPiece(x, y, isAcross));
    }

    public char signAt(int place) throws IndexOutOfBoundsException {
        if (place < 0 || place >= textLength) {
            throw new IndexOutOfBoundsException("the text has no such place");
        }
        return text[place];
    }

    // ---- the cover ----

    public int draw(long number) throws NoSuchElementException {
        long total = front.total();
        if (total <= 0) {
            throw new NoSuchElementException("the board has no cover");
        }
        show(Math.floorMod(number, total));
        return ground.size() / 2;
    }

    public boolean next() throws NoSuchElementException {
        if (!cover.isThere) {
            throw new NoSuchElementException("there is no cover");
        }
        long total = front.total();
        long at = front.rank(cover.right, cover.down) + 1;
        boolean isMore = at < total;
        show(isMore ? at : 0);
        return isMore;
    }

    public boolean previous() throws NoSuchElementException {
        if (!cover.isThere) {
            throw new NoSuchElementException("there is no cover");
        }
        long total = front.total();
        long at = front.rank(cover.right, cover.down);
        boolean isMore = at > 0;
        show(isMore ? at - 1 : total - 1);
        return isMore;
    }

    public int number() throws NoSuchElementException {
        if (!cover.isThere) {
            throw new NoSuchElementException("there is no cover");
        }
        front.total();
        return say(front.rank(cover.right, cover.down));
    }

    public char other(int x, int y) throws IndexOutOfBoundsException, NoSuchElementException {
        if (!ground.holds(x, y)) {
            throw new IndexOutOfBoundsException("the board has no such cell");
        }
        if (!cover.isThere) {
            throw new NoSuchElementException("there is no cover");
        }
        return cover.codeAt(x, y);
    }

    public int flips() throws NoSuchElementException {
        if (!cover.isThere) {
            throw new NoSuchElementException("there is no cover");
        }
        return cover.countFlips();
    }

    public int flip(int index) throws NoSuchElementException, IndexOutOfBoundsException {
        if (!cover.isThere) {
            throw new NoSuchElementException("there is no cover");
        }
        int square = cover.squareOf(index);
        if (square < 0) {
            throw new IndexOutOfBoundsException("there is no such flip");
        }
        cover.take(cover.rightFlipped(square), cover.downFlipped(square));
        return cover.countFlips();
    }

    public int undo() throws IllegalStateException {
        if (cover.past == 0) {
            throw new IllegalStateException("nothing can be undone");
        }
        cover.takeBack();
        return cover.past;
    }

    public int keep() throws NoSuchElementException {
        if (!cover.isThere) {
            throw new NoSuchElementException("there is no cover");
        }
        cover.store();
        return cover.countCuts();
    }

    public int apart() throws UnsupportedOperationException, NoSuchElementException {
        if (!ground.isPlain()) {
            throw new UnsupportedOperationException("the board is rolled or has a hole");
        }
        if (!cover.isThere || !cover.isKept) {
            throw new NoSuchElementException("there are no two covers");
        }
        heights.fillKept(cover.keptRight, cover.keptDown);
        return heights.flipsFromKept(cover.right, cover.down);
    }

    public int height(int x, int y) throws UnsupportedOperationException, IndexOutOfBoundsException,
            NoSuchElementException {
        if (!ground.isPlain()) {
            throw new UnsupportedOperationException("the board is rolled or has a hole");
        }
        if (!heights.isCorner(x, y)) {
            throw new IndexOutOfBoundsException("it is no corner of a cell");
        }
        if (!cover.isThere) {
            throw new NoSuchElementException("there is no cover");
        }
        return heights.heightAt(cover.right, cover.down, x, y);
    }

    public int cuts() throws NoSuchElementException {
        if (!cover.isThere) {
            throw new NoSuchElementException("there is no cover");
        }
        return cover.countCuts();
    }

    // ---- cells that stay free ----

    public int free() {
        pairing.refresh();
        return Long.bitCount(pairing.alone);
    }

    public char role(int x, int y) throws IndexOutOfBoundsException {
        if (!ground.holds(x, y)) {
            throw new IndexOutOfBoundsException("the board has no such cell");
        }
        pairing.refresh();
        long cell = Board.bit(x, y);
        if ((pairing.canBeFree & cell) != 0) {
            return 'f';
        }
        return (pairing.besideFree & cell) != 0 ? 'n' : '-';
    }

    public int roles(char role) throws IllegalArgumentException {
        if (role != 'f' && role != 'n' && role != '-') {
            throw new IllegalArgumentException("there is no such role");
        }
        pairing.refresh();
        int frees = Long.bitCount(pairing.canBeFree);
        int neighbours = Long.bitCount(pairing.besideFree);
        if (role == 'f') {
            return frees;
        }
        return role == 'n' ? neighbours : ground.size() - frees - neighbours;
    }

    // ---- pieces that are typed ----

    public int pieceCell(int x, int y) throws IllegalArgumentException, IllegalStateException {
        if (!isFrom(0, x, Kinds.LAST) || !isFrom(0, y, Kinds.LAST)) {
            throw new IllegalArgumentException("a typed cell has x and y from 0 to 5");
        }
        if (!kinds.canType(x, y)) {
            throw new IllegalStateException("6 other cells are typed");
        }
        return kinds.type(x, y);
    }

    public int kind(boolean isTurned, boolean isMirrored, int many)
            throws IllegalArgumentException, IllegalStateException, UnsupportedOperationException {
        if (!isFrom(1, many, Kinds.MOST_PIECES)) {
            throw new IllegalArgumentException("there are 1 to 8 pieces of a kind");
        }
        if (!kinds.canBeMade()) {
            throw new IllegalStateException("too few cells are typed, or there are 6 kinds");
        }
        int shapes = kinds.makeShapes(isTurned, isMirrored);
        if (shapes == 0) {
            throw new UnsupportedOperationException("the cells do not hang together, or are of another kind");
        }
        kinds.takeShapes(shapes, many);
        return shapes;
    }

    public int clear() {
        int were = kinds.count;
        kinds.dropAll();
        return were;
    }

    public int exact() throws UnsupportedOperationException {
        if (ground.size() > EXACT_CELLS) {
            throw new UnsupportedOperationException("the board has more than 24 cells");
        }
        exactly.refresh();
        return (int) exactly.total;
    }

    public int unlike() throws UnsupportedOperationException {
        if (ground.size() > EXACT_CELLS || ground.isRolled) {
            throw new UnsupportedOperationException("the board has more than 24 cells, or is rolled");
        }
        return (int) exactly.countUnlike();
    }

    public int kindAt(int index, int x, int y)
            throws UnsupportedOperationException, NoSuchElementException, IndexOutOfBoundsException {
        if (ground.size() > EXACT_CELLS) {
            throw new UnsupportedOperationException("the board has more than 24 cells");
        }
        exactly.refresh();
        if (index < 0 || index >= exactly.total) {
            throw new NoSuchElementException("there is no such exact cover");
        }
        if (!ground.holds(x, y)) {
            throw new IndexOutOfBoundsException("the board has no such cell");
        }
        exactly.choose(index);
        return exactly.chosenKind(x, y);
    }

    // ---- strips, hexagons ----

    public int strip(int width, int length) throws IllegalArgumentException {
        if (!isFrom(1, width, Growth.WIDEST) || !isFrom(0, length, Growth.LONGEST)) {
            throw new IllegalArgumentException("a strip is 1 to 6 wide and 0 to 300 long");
        }
        growth.byRule(width, length, answer);
        return sayAnswer();
    }

    public int order(int width) throws IllegalArgumentException {
        if (!isFrom(1, width, Growth.WIDEST)) {
            throw new IllegalArgumentException("a strip is 1 to 6 wide");
        }
        return Growth.orderOf(width);
    }

    public int rule(int width, int index) throws IllegalArgumentException, IndexOutOfBoundsException {
        if (!isFrom(1, width, Growth.WIDEST)) {
            throw new IllegalArgumentException("a strip is 1 to 6 wide");
        }
        if (!isFrom(1, index, Growth.orderOf(width))) {
            throw new IndexOutOfBoundsException("the rule has no such number");
        }
        return say(Growth.factor(width, index));
    }

    public int hexagon(int a, int b, int c) throws IllegalArgumentException {
        if (!areSides(a, b, c)) {
            throw new IllegalArgumentException("a side is 1 to 8");
        }
        determinant.countHexagon(a, b, c, answer);
        return sayAnswer();
    }

    public int heaps(int a, int b, int c) throws IllegalArgumentException {
        if (!areSides(a, b, c)) {
            throw new IllegalArgumentException("a side is 1 to 8");
        }
        answer.putHeaps(a, b, c);
        return sayAnswer();
    }

    // ---- rooks, loops ----

    public int rooks(int rooks) throws IllegalArgumentException {
        if (!isFrom(0, rooks, Board.SIDE)) {
            throw new IllegalArgumentException("there are 0 to 8 rooks");
        }
        return say(walks.countRooks(rooks));
    }

    public int mostRooks() {
        return walks.findMostRooks();
    }

    public int loops() throws UnsupportedOperationException {
        if (ground.size() > LOOP_CELLS || ground.isRolled) {
            throw new UnsupportedOperationException("the board has more than 36 cells, or is rolled");
        }
        return say(walks.countLoops());
    }

    // ---- figures ----

    public float share(int x, int y, boolean isAcross) throws IndexOutOfBoundsException, ArithmeticException {
        if (!ground.isPiece(x, y, isAcross)) {
            throw new IndexOutOfBoundsException("there is no such piece");
        }
        long total = front.total();
        if (total <= 0) {
            throw new ArithmeticException("there are no covers");
        }
        front.fillHaving();
        return (float) front.withPiece(x, y, isAcross) / (float) total;
    }

    public double meanPart() throws ArithmeticException {
        int groups = ground.countParts();
        if (groups <= 0) {
            throw new ArithmeticException("there are no cells");
        }
        return (double) ground.size() / (double) groups;
    }

    public long checksum() {
        long sum = ground.addTo(7);
        if (cover.isThere) {
            sum = cover.addTo(sum);
        }
        sum = kinds.addTo(sum);
        for (int i = 0; i < textLength; i++) {
            sum = 31 * sum + text[i];
        }
        return sum;
    }

    public boolean isSound() {
        return countsAgree() && numberIsSound() && flipsAreSound() && piecesAreSound() && rolesAreSound()
                && exactIsSound() && stripsAreSound() && hexagonsAreSound();
    }

    private boolean countsAgree() {
        return !ground.isPlain() || front.total() == determinant.countCovers(ground);
    }

    private boolean numberIsSound() {
        if (!cover.isThere) {
            return true;
        }
        long total = front.total();
        long at = front.rank(cover.right, cover.down);
        front.make(at);
        boolean isAgain = front.madeRight == cover.right && front.madeDown == cover.down;
        if (at + 1 >= total) {
            return isAgain;
        }
        front.make(at + 1);
        return isAgain && front.rank(front.madeRight, front.madeDown) == at + 1;
    }

    private boolean flipsAreSound() {
        if (!cover.isThere || !ground.isPlain()) {
            return true;
        }
        heights.fillKept(cover.right, cover.down);
        int many = cover.countFlips();
        for (int i = 0; i < many; i++) {
            int square = cover.squareOf(i);
            if (heights.flipsFromKept(cover.rightFlipped(square), cover.downFlipped(square)) != 1) {
                return false;
            }
        }
        return true;
    }

    private boolean piecesAreSound() {
        long total = front.total();
        front.fillHaving();
        for (int y = 0; y < ground.height; y++) {
            for (int x = 0; x < ground.width; x++) {
                if (ground.holds(x, y) && front.withCell(x, y) != total) {
                    return false;
                }
            }
        }
        return true;
    }

    private boolean rolesAreSound() {
        pairing.refresh();
        int frees = Long.bitCount(pairing.canBeFree);
        return Long.bitCount(pairing.alone) == frees - Long.bitCount(pairing.besideFree);
    }

    /** Some numbers from the first to the last stand for all, so that the call stays short. */
    private boolean exactIsSound() {
        if (ground.size() > EXACT_CELLS) {
            return true;
        }
        exactly.refresh();
        for (int i = 0; i <= SAMPLES && exactly.total > 0; i++) {
            long index = (exactly.total - 1) * i / SAMPLES;
            exactly.choose(index);
            if (exactly.chosenNumber() != index) {
                return false;
            }
        }
        return true;
    }

    private boolean stripsAreSound() {
        for (int width = 1; width <= 4; width++) {
            for (int length = 0; length <= 30; length++) {
                growth.byRule(width, length, answer);
                check.put(growth.byFront(width, length));
                if (!answer.isLike(check)) {
                    return false;
                }
            }
        }
        return true;
    }

    private boolean hexagonsAreSound() {
        for (int a = 1; a <= 3; a++) {
            for (int b = 1; b <= 3; b++) {
                for (int c = 1; c <= 3; c++) {
                    determinant.countHexagon(a, b, c, answer);
                    check.putHeaps(a, b, c);
                    if (!answer.isLike(check)) {
                        return false;
                    }
                }
            }
        }
        return true;
    }

    private static boolean isFrom(int least, int given, int most) {
        return given >= least && given <= most;
    }

    private static boolean areSides(int a, int b, int c) {
        return isFrom(1, a, 8) && isFrom(1, b, 8) && isFrom(1, c, 8);
    }

    private void show(long number) {
        front.make(number);
        cover.take(front.madeRight, front.madeDown);
    }

    private int say(long given) {
        answer.put(given);
        return sayAnswer();
    }

    private int sayAnswer() {
        textLength = answer.writeTo(text);
        return textLength;
    }

    /** Cells are bits of a long, eight a row, so that neighbours of many come by a few shifts. */
    private static final class Board {
        private static final int SIDE = 8;
        private static final int MOST_CELLS = 64;
        private static final long DARK = 0xAA55AA55AA55AA55L;
        private static final long COLUMN = 0x0101010101010101L;
        private static final long ROW = 0xFFL;

        private int width;
        private int height;
        private boolean isRolled;
        private long cells;
        /** Grows with every change, so that what was counted for an older board is known to be old. */
        private int changes;

        private Board() {
            width = 1;
            height = 1;
            isRolled = false;
            cells = 0;
            changes = 0;
        }

        private static long bit(int x, int y) {
            return 1L << (SIDE * y + x);
        }

        private static long rectangleOf(int width, int height) {
            long row = (1L << width) - 1;
            long all = 0;
            for (int y = 0; y < height; y++) {
                all |= row << (SIDE * y);
            }
            return all;
        }

        private static boolean isForm(char kind, int n) {
            if (kind == 'a') {
                return isFrom(1, n, SIDE / 2);
            }
            if (kind == 's') {
                return isFrom(1, n, SIDE);
            }
            if (kind == 'o') {
                return isFrom(3, n, SIDE);
            }
            return kind == 'c' && isFrom(2, n, SIDE);
        }

        private static long formCells(char kind, int n) {
            int side = kind == 'a' ? 2 * n : n;
            long all = 0;
            for (int y = 0; y < side && y < SIDE; y++) {
                for (int x = 0; x < side && x < SIDE; x++) {
                    if (isInForm(kind, n, x, y)) {
                        all |= bit(x, y);
                    }
                }
            }
            return all;
        }

        private static boolean isInForm(char kind, int n, int x, int y) {
            if (kind == 'a') {
                int missing = y < n ? n - 1 - y : y - n;
                return isFrom(missing, x, 2 * n - 1 - missing);
            }
            if (kind == 's') {
                return x <= y;
            }
            if (kind == 'o') {
                return x == 0 || y == 0 || x == n - 1 || y == n - 1;
            }
            return !(x == 0 && y == 0) && !(x == n - 1 && y == n - 1);
        }

        private void tell(int newWidth, int newHeight, long newCells) {
            width = newWidth;
            height = newHeight;
            cells = newCells;
            isRolled = false;
            changes++;
        }

        private void change(int x, int y) {
            cells ^= bit(x, y);
            changes++;
        }

        private void turnRound(boolean isNowRolled) {
            isRolled = isNowRolled;
            changes++;
        }

        private boolean canBeRolled() {
            return width % 2 == 0 && width >= 4;
        }

        private int size() {
            return Long.bitCount(cells);
        }

        private boolean isWithin(int x, int y) {
            return x >= 0 && x < width && y >= 0 && y < height;
        }

        private boolean holds(int x, int y) {
            return x >= 0 && x < width && y >= 0 && y < height && (cells >>> (SIDE * y + x) & 1) != 0;
        }

        /** The column on the right, round if the board is rolled, or -1. */
        private int rightOf(int x) {
            if (x + 1 < width) {
                return x + 1;
            }
            return isRolled ? 0 : -1;
        }

        private boolean isPiece(int x, int y, boolean isAcross) {
            if (!holds(x, y)) {
                return false;
            }
            return isAcross ? holds(rightOf(x), y) : holds(x, y + 1);
        }

        /** All neighbours of some cells, on the board or not. */
        private long beside(long some) {
            long lastColumn = COLUMN << (SIDE - 1);
            long found = (some << SIDE) | (some >>> SIDE)
                    | ((some & ~lastColumn) << 1) | ((some & ~COLUMN) >>> 1);
            if (isRolled) {
                found |= (some & COLUMN) << (width - 1);
                found |= (some >>> (width - 1)) & COLUMN;
            }
            return found;
        }

        private long reach(long start, long within) {
            long reached = start;
            for (int i = 0; i < MOST_CELLS; i++) {
                long more = reached | (beside(reached) & within);
                if (more == reached) {
                    break;
                }
                reached = more;
            }
            return reached;
        }

        /** How many groups of neighbours lie within some cells, those that touch a rim not counted. */
        private int countGroups(long within, long rim) {
            int many = 0;
            long left = within;
            for (int i = 0; i < MOST_CELLS && left != 0; i++) {
                long group = reach(left & -left, within);
                left &= ~group;
                if ((group & rim) == 0) {
                    many++;
                }
            }
            return many;
        }

        private int countParts() {
            return countGroups(cells, 0);
        }

        private int countHoles() {
            long rim = ROW | (ROW << (SIDE * (height - 1)));
            if (!isRolled) {
                rim |= COLUMN | (COLUMN << (width - 1));
            }
            return countGroups(rectangleOf(width, height) & ~cells, rim);
        }

        private boolean isPlain() {
            return !isRolled && countHoles() == 0;
        }

        private long addTo(long start) {
            long sum = 31 * start + width;
            sum = 31 * sum + height;
            sum = 31 * sum + (isRolled ? 1 : 0);
            for (int y = 0; y < height; y++) {
                for (int x = 0; x < width; x++) {
                    sum = 31 * sum + (holds(x, y) ? 1 : 0);
                }
            }
            return sum;
        }
    }

    /**
     * Counts covers cell by cell. A state of the front has a bit a column, set if the next cell of that column is
     * covered already, and the bit WAITING while the first cell of a row waits for the last one of it.
     */
    private static final class Front {
        private static final int MASKS = 256;
        private static final int STATES = 512;
        private static final int WAITING = 256;
        private static final int ANY = -1;
        private static final int WAYS = 4;
        private static final int NOTHING = 0;
        private static final int RIGHT = 1;
        private static final int DOWN = 2;
        private static final int ROUND = 3;

        private final Board board;
        /** How many ways lead on to the end from the beginning of a row. */
        private final long[] fromRow;
        /** The same from each cell of one row, which is filled anew for each row that is gone through. */
        private final long[] fromCell;
        private final long[] come;
        private final long[] go;
        private final long[] having;
        private int countedAt;
        private int sharedAt;
        private long madeRight;
        private long madeDown;

        private Front(Board board) {
            this.board = board;
            fromRow = new long[(Board.SIDE + 1) * MASKS];
            fromCell = new long[(Board.SIDE + 1) * STATES];
            come = new long[STATES];
            go = new long[STATES];
            having = new long[2 * Board.MOST_CELLS];
            countedAt = -1;
            sharedAt = -1;
            madeRight = 0;
            madeDown = 0;
        }

        /** The state behind a cell, if it is passed in a way, or -1. The ways stand in the order of covers. */
        private int after(int x, int y, int state, int way) {
            int row = (int) (board.cells >>> (Board.SIDE * y));
            int mark = 1 << x;
            int last = 1 << (board.width - 1);
            boolean isOpen = (row & mark) != 0 && (state & mark) == 0;
            if (mark == last && (state & WAITING) != 0) {
                return way == NOTHING && isOpen ? state & ~WAITING : -1;
            }
            if (!isOpen) {
                return way == NOTHING ? state & ~mark : -1;
            }
            if (way == RIGHT) {
                int right = mark << 1;
                return mark != last && (row & right) != 0 && (state & right) == 0 ? state | right : -1;
            }
            if (way == DOWN) {
                return y + 1 < board.height && ((row >>> Board.SIDE) & mark) != 0 ? state | mark : -1;
            }
            boolean canWait = board.isRolled && x == 0 && (row & last) != 0 && (state & last) == 0;
            return way == ROUND && canWait ? state | WAITING : -1;
        }

        private long total() {
            if (countedAt != board.changes) {
                Arrays.fill(fromRow, 0);
                fromRow[board.height * MASKS] = 1;
                for (int y = board.height - 1; y >= 0; y--) {
                    prepareRow(y, ANY);
                    System.arraycopy(fromCell, 0, fromRow, y * MASKS, 1 << board.width);
                }
                countedAt = board.changes;
            }
            return fromRow[0];
        }

        /** Fills fromCell for all that can come of one state at the beginning of the row, or of any one. */
        private void prepareRow(int y, int begin) {
            int masks = 1 << board.width;
            // Behind the last cell of a row no first one waits: its states are those at the beginning of the next row.
            System.arraycopy(fromRow, (y + 1) * MASKS, fromCell, board.width * STATES, masks);
            for (int x = board.width - 1; x >= 0; x--) {
                // The columns on the right of the cell stand as they did at the beginning of the row.
                int free = begin == ANY ? masks : 2 << x;
                int fixed = begin == ANY ? 0 : begin & -free & (MASKS - 1);
                for (int i = 0; i < free; i++) {
                    int mask = fixed | i;
                    fromCell[x * STATES + mask] = sumOnward(x, y, mask);
                    if (board.isRolled) {
                        fromCell[x * STATES + mask + WAITING] = sumOnward(x, y, mask + WAITING);
                    }
                }
            }
        }

        private long sumOnward(int x, int y, int state) {
            long sum = 0;
            for (int way = 0; way < WAYS; way++) {
                sum += onward(x, after(x, y, state, way));
            }
            return sum;
        }

        private long onward(int x, int next) {
            return next < 0 ? 0 : fromCell[(x + 1) * STATES + next];
        }

        /** Makes the cover of a number, once total() has been called for the board. */
        private void make(long number) {
            long left = number;
            int state = 0;
            madeRight = 0;
            madeDown = 0;
            for (int y = 0; y < board.height; y++) {
                prepareRow(y, state);
                for (int x = 0; x < board.width; x++) {
                    for (int way = 0; way < WAYS; way++) {
                        int next = after(x, y, state, way);
                        long many = onward(x, next);
                        if (left < many) {
                            state = next;
                            put(x, y, way);
                            break;
                        }
                        left -= many;
                    }
                }
            }
        }

        private void put(int x, int y, int way) {
            if (way == RIGHT) {
                madeRight |= Board.bit(x, y);
            }
            if (way == DOWN) {
                madeDown |= Board.bit(x, y);
            }
            if (way == ROUND) {
                madeRight |= Board.bit(board.width - 1, y);
            }
        }

        /** The number of a cover, once total() has been called for the board; -1 if it is none. */
        private long rank(long right, long down) {
            long sum = 0;
            int state = 0;
            for (int y = 0; y < board.height; y++) {
                prepareRow(y, state);
                for (int x = 0; x < board.width; x++) {
                    int taken = wayTaken(x, y, state, right, down);
                    for (int way = 0; way < taken; way++) {
                        sum += onward(x, after(x, y, state, way));
                    }
                    state = after(x, y, state, taken);
                    if (state < 0) {
                        return -1;
                    }
                }
            }
            return sum;
        }

        private int wayTaken(int x, int y, int state, long right, long down) {
            if (after(x, y, state, NOTHING) >= 0) {
                return NOTHING;
            }
            long cell = Board.bit(x, y);
            if ((right & cell) != 0) {
                return RIGHT;
            }
            return (down & cell) != 0 ? DOWN : ROUND;
        }

        /** How many covers have a piece, once fillHaving() has been called for the board. */
        private long withPiece(int x, int y, boolean isAcross) {
            return having[2 * (Board.SIDE * y + x) + (isAcross ? 0 : 1)];
        }

        /** How many covers have any piece with a cell, summed over the pieces, as withPiece() tells them. */
        private long withCell(int x, int y) {
            int before = x > 0 ? x - 1 : board.width - 1;
            long sum = 0;
            for (int i = 0; i < 2; i++) {
                sum += having[2 * (Board.SIDE * y + x) + i];
            }
            if (y > 0) {
                sum += having[2 * (Board.SIDE * (y - 1) + x) + 1];
            }
            return sum + (before != x ? having[2 * (Board.SIDE * y + before)] : 0);
        }

        private void fillHaving() {
            if (sharedAt == board.changes) {
                return;
            }
            total();
            Arrays.fill(having, 0);
            Arrays.fill(come, 0);
            come[0] = 1;
            for (int y = 0; y < board.height; y++) {
                prepareRow(y, ANY);
                for (int x = 0; x < board.width; x++) {
                    Arrays.fill(go, 0);
                    goOn(x, y);
                    System.arraycopy(go, 0, come, 0, STATES);
                }
            }
            sharedAt = board.changes;
        }

        private void goOn(int x, int y) {
            int cell = Board.SIDE * y + x;
            int round = Board.SIDE * y + board.width - 1;
            for (int state = 0; state < STATES; state++) {
                for (int way = 0; way < WAYS && come[state] != 0; way++) {
                    int next = after(x, y, state, way);
                    if (next >= 0) {
                        go[next] += come[state];
                        long many = come[state] * onward(x, next);
                        if (way == RIGHT || way == ROUND) {
                            having[2 * (way == RIGHT ? cell : round)] += many;
                        } else if (way == DOWN) {
                            having[2 * cell + 1] += many;
                        }
                    }
                }
            }
        }
    }

    /** The cover, the kept one, and what can be undone. A piece is a bit at its left or upper cell. */
    private static final class Cover {
        private static final int MOST_PAST = 10;

        private final Board board;
        private final long[] pastRight;
        private final long[] pastDown;
        private final boolean[] wasThere;
        private boolean isThere;
        private long right;
        private long down;
        private boolean isKept;
        private long keptRight;
        private long keptDown;
        private int past;

        private Cover(Board board) {
            this.board = board;
            pastRight = new long[MOST_PAST];
            pastDown = new long[MOST_PAST];
            wasThere = new boolean[MOST_PAST];
            past = 0;
            isThere = false;
            isKept = false;
        }

        private void forget() {
            isThere = false;
            isKept = false;
            past = 0;
            right = 0;
            down = 0;
        }

        private void take(long newRight, long newDown) {
            if (past >= MOST_PAST) {
                dropOldest();
            }
            pastRight[past] = right;
            pastDown[past] = down;
            wasThere[past] = isThere;
            past++;
            right = newRight;
            down = newDown;
            isThere = true;
        }

        private void dropOldest() {
            past = MOST_PAST - 1;
            for (int i = 0; i < past; i++) {
                pastRight[i] = pastRight[i + 1];
                pastDown[i] = pastDown[i + 1];
                wasThere[i] = wasThere[i + 1];
            }
        }

        private void takeBack() {
            if (past > 0) {
                past--;
                right = pastRight[past];
                down = pastDown[past];
                isThere = wasThere[past];
            }
        }

        private void store() {
            keptRight = right;
            keptDown = down;
            isKept = true;
        }

        private char codeAt(int x, int y) {
            if ((right & Board.bit(x, y)) != 0) {
                return 'e';
            }
            if ((down & Board.bit(x, y)) != 0) {
                return 's';
            }
            int before = x > 0 ? x - 1 : board.width - 1;
            return (right & Board.bit(before, y)) != 0 ? 'w' : 'n';
        }

        private int countCuts() {
            int many = 0;
            int lines = board.isRolled ? board.width : board.width - 1;
            for (int x = 0; x < lines; x++) {
                many += (right & (Board.COLUMN << x)) == 0 ? 1 : 0;
            }
            for (int y = 0; y + 1 < board.height; y++) {
                many += (down & (Board.ROW << (Board.SIDE * y))) == 0 ? 1 : 0;
            }
            return many;
        }

        private long acrossPair(int x, int y) {
            return Board.bit(x, y) | Board.bit(x, y + 1);
        }

        private long downPair(int x, int y) {
            return Board.bit(x, y) | Board.bit(board.rightOf(x), y);
        }

        private boolean canFlip(int x, int y) {
            if (board.rightOf(x) < 0 || y + 1 >= board.height) {
                return false;
            }
            long across = acrossPair(x, y);
            long upright = downPair(x, y);
            return (right & across) == across || (down & upright) == upright;
        }

        private int countFlips() {
            int many = 0;
            for (int y = 0; y < board.height; y++) {
                for (int x = 0; x < board.width; x++) {
                    many += canFlip(x, y) ? 1 : 0;
                }
            }
            return many;
        }

        /** The upper left cell of a flip as 8 y and x, or -1. */
        private int squareOf(int index) {
            int left = index;
            for (int y = 0; y < board.height && left >= 0; y++) {
                for (int x = 0; x < board.width; x++) {
                    if (canFlip(x, y)) {
                        if (left == 0) {
                            return Board.SIDE * y + x;
                        }
                        left--;
                    }
                }
            }
            return -1;
        }

        private long rightFlipped(int square) {
            return right ^ acrossPair(square % Board.SIDE, square / Board.SIDE);
        }

        private long downFlipped(int square) {
            return down ^ downPair(square % Board.SIDE, square / Board.SIDE);
        }

        private long addTo(long start) {
            long sum = start;
            for (int y = 0; y < board.height; y++) {
                for (int x = 0; x < board.width; x++) {
                    if (board.holds(x, y)) {
                        sum = 31 * sum + codeAt(x, y);
                    }
                }
            }
            return sum;
        }
    }

    /** Heights of corners, which tell how far two covers of a plain board are apart. */
    private static final class Heights {
        private static final int LINE = 9;
        private static final int CORNERS = 81;
        private static final int UNKNOWN = -9999;
        private static final int FLIP = 4;

        private final Board board;
        private final int[] now;
        private final int[] kept;
        private final int[] queue;
        private long right;
        private long down;

        private Heights(Board board) {
            this.board = board;
            now = new int[CORNERS];
            kept = new int[CORNERS];
            queue = new int[CORNERS];
        }

        private boolean isCorner(int x, int y) {
            if (x < 0 || x > board.width || y < 0 || y > board.height) {
                return false;
            }
            return board.holds(x, y) || board.holds(x - 1, y) || board.holds(x, y - 1) || board.holds(x - 1, y - 1);
        }

        private int heightAt(long coverRight, long coverDown, int x, int y) {
            fillRow(coverRight, coverDown, now);
            return now[LINE * y + x];
        }

        private void fillKept(long coverRight, long coverDown) {
            fillRow(coverRight, coverDown, kept);
        }

        private int flipsFromKept(long coverRight, long coverDown) {
            fillRow(coverRight, coverDown, now);
            int sum = 0;
            for (int i = 0; i < CORNERS; i++) {
                sum += Math.abs(now[i] - kept[i]);
            }
            return sum / FLIP;
        }

        private void fillRow(long coverRight, long coverDown, int[] into) {
            right = coverRight;
            down = coverDown;
            Arrays.fill(into, UNKNOWN);
            for (int y = 0; y <= board.height; y++) {
                for (int x = 0; x <= board.width; x++) {
                    if (isCorner(x, y) && into[LINE * y + x] == UNKNOWN) {
                        spread(LINE * y + x, into);
                    }
                }
            }
        }

        private void spread(int start, int[] into) {
            into[start] = 0;
            queue[0] = start;
            int many = 1;
            for (int i = 0; i < many && i < CORNERS; i++) {
                int x = queue[i] % LINE;
                int y = queue[i] / LINE;
                many = reach(queue[i], 1, riseRight(x, y), many, into);
                many = reach(queue[i], LINE, riseDown(x, y), many, into);
                many = reach(queue[i], -1, -riseRight(x - 1, y), many, into);
                many = reach(queue[i], -LINE, -riseDown(x, y - 1), many, into);
            }
        }

        /** Tells the height of a corner one step on, if a side leads there, and answers how many are in the queue. */
        private int reach(int from, int step, int rise, int many, int[] into) {
            int to = from + step;
            if (rise == 0 || to < 0 || to >= CORNERS || into[to] != UNKNOWN || many >= CORNERS) {
                return many;
            }
            into[to] = into[from] + rise;
            queue[many] = to;
            return many + 1;
        }

        /** What the height rises along a side to the right, 0 if no cell has that side; so, too, down. */
        private int riseRight(int x, int y) {
            boolean isAbove = board.holds(x, y - 1);
            if (!isAbove && !board.holds(x, y)) {
                return 0;
            }
            boolean isCrossed = isAbove && (down & Board.bit(x, y - 1)) != 0;
            return rise((x + y - 1) % 2 == 0, isCrossed);
        }

        private int riseDown(int x, int y) {
            boolean isLeft = board.holds(x - 1, y);
            if (!isLeft && !board.holds(x, y)) {
                return 0;
            }
            boolean isCrossed = isLeft && (right & Board.bit(x - 1, y)) != 0;
            return rise((x + y) % 2 == 0, isCrossed);
        }

        private int rise(boolean isDarkLeft, boolean isCrossed) {
            int change = isCrossed ? -3 : 1;
            return isDarkLeft ? change : -change;
        }
    }

    /** Determinants by remainders of great primes, put together at the end. */
    private static final class Determinant {
        private static final int SIDE = 32;
        private static final int PRIMES = 3;
        private static final long FIRST = 2147483647L;
        private static final long SECOND = 2147483629L;
        private static final long THIRD = 2147483587L;

        private final long[] matrix;
        private final long[] rests;

        private Determinant() {
            matrix = new long[SIDE * SIDE];
            rests = new long[PRIMES];
        }

        private static long prime(int index) {
            if (index == 0) {
                return FIRST;
            }
            return index == 1 ? SECOND : THIRD;
        }

        private static long power(long base, long exponent, long prime) {
            long result = 1;
            long square = base % prime;
            for (int i = 0; i < 32; i++) {
                if ((exponent >>> i & 1) != 0) {
                    result = result * square % prime;
                }
                square = square * square % prime;
            }
            return result;
        }

        private static long inverse(long number, long prime) {
            return power(number, prime - 2, prime);
        }

        /** The covers of a plain board: signs of columns make all terms of the determinant alike. */
        private long countCovers(Board board) {
            long dark = board.cells & Board.DARK;
            long light = board.cells & ~Board.DARK;
            int size = Long.bitCount(dark);
            if (size != Long.bitCount(light)) {
                return 0;
            }
            for (int i = 0; i < 2; i++) {
                fillSigns(board, dark, light, prime(i));
                rests[i] = eliminate(size, prime(i));
            }
            long value = rests[0] + FIRST * secondDigit();
            long most = FIRST * SECOND;
            return value > most / 2 ? most - value : value;
        }

        private long secondDigit() {
            return Math.floorMod(rests[1] - rests[0], SECOND) * inverse(FIRST, SECOND) % SECOND;
        }

        private long thirdDigit() {
            long second = secondDigit();
            long rest = Math.floorMod(rests[2] - rests[0], THIRD) * inverse(FIRST, THIRD) % THIRD;
            return Math.floorMod(rest - second, THIRD) * inverse(SECOND, THIRD) % THIRD;
        }

        private void fillSigns(Board board, long dark, long light, long prime) {
            Arrays.fill(matrix, 0);
            int row = 0;
            for (int y = 0; y < board.height; y++) {
                for (int x = 0; x < board.width; x++) {
                    if ((dark & Board.bit(x, y)) != 0 && row < SIDE) {
                        long upright = x % 2 == 0 ? 1 : prime - 1;
                        setSign(board, light, row, x - 1, y, 1);
                        setSign(board, light, row, x + 1, y, 1);
                        setSign(board, light, row, x, y - 1, upright);
                        setSign(board, light, row, x, y + 1, upright);
                        row++;
                    }
                }
            }
        }

        private void setSign(Board board, long light, int row, int x, int y, long sign) {
            if (board.holds(x, y)) {
                int column = Long.bitCount(light & (Board.bit(x, y) - 1));
                matrix[row * SIDE + column] = sign;
            }
        }

        /** Puts the diamonds of a hexagon into a number: ways from a points to a others that do not cross. */
        private void countHexagon(int a, int b, int c, BigNumber into) {
            for (int i = 0; i < PRIMES; i++) {
                for (int row = 0; row < a; row++) {
                    for (int column = 0; column < a; column++) {
                        matrix[row * SIDE + column] = choose(b + c, b - row + column);
                    }
                }
                rests[i] = eliminate(a, prime(i));
            }
            into.put(thirdDigit());
            into.timesPlus(SECOND, secondDigit());
            into.timesPlus(FIRST, rests[0]);
        }

        private static long choose(int from, int some) {
            if (some < 0 || some > from) {
                return 0;
            }
            long ways = 1;
            for (int i = 0; i < some; i++) {
                ways = ways * (from - i) / (i + 1);
            }
            return ways;
        }

        /** The determinant of the upper left rows and columns, which are lost by it. */
        private long eliminate(int size, long prime) {
            long result = 1;
            for (int i = 0; i < size; i++) {
                int pivot = pivotOf(i, size);
                if (pivot < 0) {
                    return 0;
                }
                if (pivot != i) {
                    swapRows(i, pivot, size);
                    result = prime - result;
                }
                long top = matrix[i * SIDE + i];
                result = result * top % prime;
                clearBelow(i, size, inverse(top, prime), prime);
            }
            return result;
        }

        private int pivotOf(int column, int size) {
            for (int row = column; row < size; row++) {
                if (matrix[row * SIDE + column] != 0) {
                    return row;
                }
            }
            return -1;
        }

        private void swapRows(int one, int another, int size) {
            for (int i = 0; i < size; i++) {
                long held = matrix[one * SIDE + i];
                matrix[one * SIDE + i] = matrix[another * SIDE + i];
                matrix[another * SIDE + i] = held;
            }
        }

        private void clearBelow(int column, int size, long inverse, long prime) {
            for (int row = column + 1; row < size; row++) {
                long factor = matrix[row * SIDE + column] * inverse % prime;
                for (int i = column; i < size && factor != 0; i++) {
                    long less = factor * matrix[column * SIDE + i] % prime;
                    matrix[row * SIDE + i] = Math.floorMod(matrix[row * SIDE + i] - less, prime);
                }
            }
        }
    }

    /** A whole number of up to some 300 digits, nine digits an element. */
    private static final class BigNumber {
        private static final int BASE = 1000000000;
        private static final int DIGITS = 9;
        private static final int ROOM = 34;

        private final int[] limbs;
        private int used;
        private boolean isNegative;

        private BigNumber() {
            limbs = new int[ROOM];
            used = 0;
            isNegative = false;
        }

        private void put(long given) {
            isNegative = given < 0;
            used = 0;
            addLimbs(Math.abs(given));
        }

        private void addLimbs(long carry) {
            long left = carry;
            for (int i = 0; i < 3 && left > 0 && used < ROOM; i++) {
                limbs[used] = (int) (left % BASE);
                left /= BASE;
                used++;
            }
        }

        private void putLimbs(int[] from, int start, int many) {
            isNegative = false;
            used = 0;
            for (int i = 0; i < many && i < ROOM && start + i < from.length; i++) {
                limbs[i] = from[start + i];
                if (limbs[i] != 0) {
                    used = i + 1;
                }
            }
        }

        /** Both numbers are from 0 up to some 2^31, so that no carry goes round. */
        private void timesPlus(long factor, long more) {
            long carry = more;
            for (int i = 0; i < used; i++) {
                long sum = limbs[i] * factor + carry;
                limbs[i] = (int) (sum % BASE);
                carry = sum / BASE;
            }
            addLimbs(carry);
        }

        private void divideBy(int divisor) {
            if (divisor <= 0) {
                return;
            }
            long rest = 0;
            int top = 0;
            for (int i = used - 1; i >= 0; i--) {
                long sum = rest * BASE + limbs[i];
                limbs[i] = (int) (sum / divisor);
                rest = sum % divisor;
                if (top == 0 && limbs[i] != 0) {
                    top = i + 1;
                }
            }
            used = top;
        }

        /** The heaps of a box, as the product of c, i and j less 1 by i and j less 1, over all i and j. */
        private void putHeaps(int a, int b, int c) {
            put(1);
            for (int i = 1; i <= a; i++) {
                for (int j = 1; j <= b; j++) {
                    timesPlus(c + i + j - 1, 0);
                }
            }
            for (int i = 1; i <= a; i++) {
                for (int j = 1; j <= b; j++) {
                    divideBy(i + j - 1);
                }
            }
        }

        private boolean isLike(BigNumber another) {
            if (another == null || used != another.used || isNegative != another.isNegative) {
                return false;
            }
            for (int i = 0; i < used; i++) {
                if (limbs[i] != another.limbs[i]) {
                    return false;
                }
            }
            return true;
        }

        /** Writes the digits and tells how many signs they are. */
        private int writeTo(char[] text) {
            int length = 0;
            if (isNegative && length < text.length) {
                text[length] = '-';
                length++;
            }
            boolean isBegun = false;
            for (int i = Math.max(used - 1, 0); i >= 0; i--) {
                int left = used == 0 ? 0 : limbs[i];
                int part = BASE / 10;
                for (int j = 0; j < DIGITS; j++) {
                    int digit = left / part % 10;
                    isBegun = isBegun || digit != 0 || (i == 0 && j == DIGITS - 1);
                    if (isBegun && length < text.length) {
                        text[length] = (char) ('0' + digit);
                        length++;
                    }
                    part = part > 1 ? part / 10 : 1;
                }
            }
            return length;
        }
    }

    /** As many pieces as can be, put by paths that change between free and covered, and what they tell of cells. */
    private static final class Pairing {
        private final Board board;
        private final int[] mate;
        private final int[] from;
        private final int[] queue;
        private int pairedAt;
        /** The cells that these pieces leave free, those that some other such pieces do, and their neighbours. */
        private long alone;
        private long canBeFree;
        private long besideFree;

        private Pairing(Board board) {
            this.board = board;
            mate = new int[Board.MOST_CELLS];
            from = new int[Board.MOST_CELLS];
            queue = new int[Board.MOST_CELLS];
            pairedAt = -1;
        }

        private static int lowest(long some) {
            return Long.bitCount(~some & (some - 1));
        }

        private void refresh() {
            if (pairedAt == board.changes) {
                return;
            }
            pair();
            spreadFree();
            pairedAt = board.changes;
        }

        private void pair() {
            Arrays.fill(mate, -1);
            alone = board.cells;
            long dark = board.cells & Board.DARK;
            for (int i = 0; i < Board.MOST_CELLS && dark != 0; i++) {
                int start = lowest(dark);
                dark &= dark - 1;
                int end = findFree(start);
                if (end >= 0) {
                    alone &= ~((1L << start) | (1L << end));
                    turnPath(end);
                }
            }
        }

        /** A light cell without a mate that a path from a dark one reaches, or -1. */
        private int findFree(int start) {
            long seen = 0;
            int many = 1;
            queue[0] = start;
            for (int i = 0; i < many && i < Board.MOST_CELLS; i++) {
                long open = board.beside(1L << queue[i]) & board.cells & ~seen;
                seen |= open;
                for (int way = 0; way < 4 && open != 0; way++) {
                    int light = lowest(open);
                    open &= open - 1;
                    from[light] = queue[i];
                    if (mate[light] < 0) {
                        return light;
                    }
                    if (many < Board.MOST_CELLS) {
                        queue[many] = mate[light];
                        many++;
                    }
                }
            }
            return -1;
        }

        private void turnPath(int end) {
            int light = end;
            for (int i = 0; i < Board.MOST_CELLS && light >= 0; i++) {
                int dark = from[light];
                int before = mate[dark];
                mate[dark] = light;
                mate[light] = dark;
                light = before;
            }
        }

        private void spreadFree() {
            canBeFree = alone;
            besideFree = 0;
            for (int i = 0; i < Board.MOST_CELLS; i++) {
                besideFree = board.beside(canBeFree) & board.cells;
                long more = canBeFree;
                for (int cell = 0; cell < Board.MOST_CELLS; cell++) {
                    if ((besideFree & (1L << cell)) != 0 && mate[cell] >= 0) {
                        more |= 1L << mate[cell];
                    }
                }
                if (more == canBeFree) {
                    break;
                }
                canBeFree = more;
            }
        }
    }

    /** The typed cells, bits of six a row, and the kinds made of them, each with all its shapes in a corner. */
    private static final class Kinds {
        private static final int SIDE = 6;
        private static final int LAST = 5;
        private static final int MOST_CELLS = 6;
        private static final int LEAST_CELLS = 3;
        private static final int MOST_KINDS = 6;
        private static final int MOST_PIECES = 8;
        private static final int MOTIONS = 8;
        private static final int MIRRORED = 4;
        private static final long COLUMN = 0x41041041L;
        private static final long ROW = 0x3FL;

        private final long[] shapes;
        private final int[] shapeCounts;
        private final int[] manyOf;
        private final int[] sizeOf;
        private long typed;
        private int count;
        /** Grows with every change of the kinds, as that of a board. */
        private int changes;

        private Kinds() {
            shapes = new long[MOST_KINDS * MOTIONS];
            shapeCounts = new int[MOST_KINDS];
            manyOf = new int[MOST_KINDS];
            sizeOf = new int[MOST_KINDS];
            typed = 0;
            count = 0;
            changes = 0;
        }

        private static long bit(int x, int y) {
            return 1L << (SIDE * y + x);
        }

        private boolean canType(int x, int y) {
            return (typed & bit(x, y)) != 0 || Long.bitCount(typed) < MOST_CELLS;
        }

        private int type(int x, int y) {
            typed |= bit(x, y);
            return Long.bitCount(typed);
        }

        private boolean canBeMade() {
            return Long.bitCount(typed) >= LEAST_CELLS && count < MOST_KINDS;
        }

        private boolean hangsTogether() {
            long reached = typed & -typed;
            for (int i = 0; i < MOST_CELLS; i++) {
                long lastColumn = COLUMN << LAST;
                reached |= typed & ((reached << SIDE) | (reached >>> SIDE)
                        | ((reached & ~lastColumn) << 1) | ((reached & ~COLUMN) >>> 1));
            }
            return reached == typed;
        }

        /** A shape mirrored, if its motion is MIRRORED or more, turned by so many quarters, and put in the corner. */
        private static long moved(long shape, int motion) {
            long result = 0;
            for (int i = 0; i < SIDE * SIDE; i++) {
                if ((shape >>> i & 1) != 0) {
                    int x = motion >= MIRRORED ? LAST - i % SIDE : i % SIDE;
                    int y = i / SIDE;
                    for (int turn = 0; turn < motion % MIRRORED; turn++) {
                        int left = x;
                        x = LAST - y;
                        y = left;
                    }
                    result |= 1L << (SIDE * y + x);
                }
            }
            for (int i = 0; i < LAST && (result & ROW) == 0; i++) {
                result >>>= SIDE;
            }
            for (int i = 0; i < LAST && (result & COLUMN) == 0; i++) {
                result >>>= 1;
            }
            return result;
        }

        private boolean isShapeOf(int kind, long shape) {
            for (int i = 0; i < shapeCounts[kind]; i++) {
                if (shapes[kind * MOTIONS + i] == shape) {
                    return true;
                }
            }
            return false;
        }

        private boolean isShapeOfAny(long shape) {
            for (int kind = 0; kind < count; kind++) {
                if (isShapeOf(kind, shape)) {
                    return true;
                }
            }
            return false;
        }

        /** Writes the shapes of the typed cells behind those of all kinds; none if they can't be a kind. */
        private int makeShapes(boolean isTurned, boolean isMirrored) {
            if (!hangsTogether() || count >= MOST_KINDS) {
                return 0;
            }
            int start = count * MOTIONS;
            int many = 0;
            for (int motion = 0; motion < MOTIONS; motion++) {
                boolean isMeant = (isTurned || motion % MIRRORED == 0) && (isMirrored || motion < MIRRORED);
                long shape = moved(typed, motion);
                if (isMeant && isShapeOfAny(shape)) {
                    return 0;
                }
                if (isMeant && !isAmong(start, many, shape)) {
                    shapes[start + many] = shape;
                    many++;
                }
            }
            return many;
        }

        private boolean isAmong(int start, int many, long shape) {
            for (int i = start; i < start + many; i++) {
                if (shapes[i] == shape) {
                    return true;
                }
            }
            return false;
        }

        private void takeShapes(int made, int many) {
            if (count < MOST_KINDS) {
                shapeCounts[count] = made;
                manyOf[count] = many;
                sizeOf[count] = Long.bitCount(typed);
                count++;
                typed = 0;
                changes++;
            }
        }

        private void dropAll() {
            typed = 0;
            count = 0;
            changes++;
        }

        private long addTo(long start) {
            long sum = 31 * start + count;
            for (int kind = 0; kind < count; kind++) {
                sum = 31 * sum + shapeCounts[kind];
                sum = 31 * sum + manyOf[kind];
            }
            return sum;
        }
    }

    /**
     * Exact covers of up to 24 cells. A state has the covered cells, the motions of the board that still take each
     * piece to one of its kind (none told if they are not asked for), how many pieces of each kind are left, and the
     * motion that is to take the cover to itself.
     */
    private static final class Exact {
        private static final int MOST_PIECES = 8;
        private static final int ROOM = 1152;
        private static final int OPENINGS = 288;
        private static final int KEYS = 2048;
        private static final int KEY_BITS = 11;
        private static final int LONG_BITS = 64;
        private static final long SPREAD = 0x9E3779B97F4A7C15L;
        private static final long CELLS = 0xFFFFFFL;
        private static final int MOTIONS_AT = 24;
        private static final int KIND_AT = 32;
        private static final int MOTION_AT = 56;
        private static final long MOTIONS = 0xFFL << MOTIONS_AT;
        /** Can be divided by each number of motions, 1 to 8. */
        private static final int WEIGHT = 840;

        private final Board board;
        private final Kinds kinds;
        private final long[] pieces;
        private final int[] starts;
        private final int[] cellAt;
        private final int[] indexOf;
        private final int[] movedTo;
        private final long[] keys;
        private final long[] values;
        /** How many covers begin with each piece at the first cell: eight shapes of six cells of six kinds at most. */
        private final long[] openings;
        private final int[] chosen;
        private int chosenCount;
        private int cellCount;
        private int pieceCount;
        private int group;
        private int boardAt;
        private int kindsAt;
        private long total;
        private long unlikeTotal;

        private Exact(Board board, Kinds kinds) {
            this.board = board;
            this.kinds = kinds;
            pieces = new long[ROOM];
            starts = new int[EXACT_CELLS + 1];
            cellAt = new int[EXACT_CELLS];
            indexOf = new int[Board.MOST_CELLS];
            movedTo = new int[Kinds.MOTIONS * EXACT_CELLS];
            keys = new long[KEYS];
            values = new long[KEYS];
            openings = new long[OPENINGS];
            chosen = new int[MOST_PIECES];
            boardAt = -1;
            kindsAt = -1;
        }

        private void refresh() {
            if (boardAt == board.changes && kindsAt == kinds.changes) {
                return;
            }
            numberCells();
            findGroup();
            collect();
            Arrays.fill(keys, 0);
            boardAt = board.changes;
            kindsAt = kinds.changes;
            unlikeTotal = -1;
            total = cellCount == 0 ? 1 : 0;
            for (int i = 0; i < starts[Math.min(1, cellCount)] && i < OPENINGS; i++) {
                long after = with(beginning(), pieces[i]);
                openings[i] = after < 0 ? 0 : search(after, 1);
                total += openings[i];
            }
        }

        /** The covers that each motion leaves as they are, each weighed by how many others there are like it. */
        private long countUnlike() {
            refresh();
            if (unlikeTotal < 0) {
                long sum = 0;
                for (int motion = 0; motion < Kinds.MOTIONS; motion++) {
                    if ((group >>> motion & 1) != 0) {
                        long asked = ((long) motion << MOTION_AT) | ((long) group << MOTIONS_AT);
                        sum += search(asked | beginning(), 0);
                    }
                }
                unlikeTotal = sum / WEIGHT;
            }
            return unlikeTotal;
        }

        private void numberCells() {
            cellCount = 0;
            Arrays.fill(indexOf, -1);
            for (int i = 0; i < Board.MOST_CELLS; i++) {
                if ((board.cells >>> i & 1) != 0 && cellCount < EXACT_CELLS) {
                    cellAt[cellCount] = i;
                    indexOf[i] = cellCount;
                    cellCount++;
                }
            }
        }

        private void findGroup() {
            group = 1;
            for (int motion = 0; motion < Kinds.MOTIONS; motion++) {
                if (fillMoved(motion) && !board.isRolled) {
                    group |= 1 << motion;
                }
            }
        }

        private boolean fillMoved(int motion) {
            int turns = motion % Kinds.MIRRORED;
            if (turns % 2 == 1 && board.width != board.height) {
                return false;
            }
            for (int i = 0; i < cellCount; i++) {
                int x = cellAt[i] % Board.SIDE;
                int y = cellAt[i] / Board.SIDE;
                x = motion >= Kinds.MIRRORED ? board.width - 1 - x : x;
                for (int turn = 0; turn < turns; turn++) {
                    int left = x;
                    x = (turn % 2 == 0 ? board.height : board.width) - 1 - y;
                    y = left;
                }
                if (!board.holds(x, y)) {
                    return false;
                }
                movedTo[motion * EXACT_CELLS + i] = indexOf[Board.SIDE * y + x];
            }
            return true;
        }

        /** The places of pieces by their first cell, then by kind, then by their cells, as covers are numbered. */
        private void collect() {
            pieceCount = 0;
            for (int first = 0; first < cellCount; first++) {
                starts[first] = pieceCount;
                for (int kind = 0; kind < kinds.count; kind++) {
                    collectKind(first, kind);
                }
            }
            starts[cellCount] = pieceCount;
        }

        private long beginning() {
            long left = 0;
            for (int kind = 0; kind < kinds.count; kind++) {
                left |= (long) kinds.manyOf[kind] << (KIND_AT + 4 * kind);
            }
            return bounded(left);
        }

        /** A state with no more pieces left of any kind than the open cells have room for, so that few are unlike. */
        private long bounded(long state) {
            int open = cellCount - Long.bitCount(state & CELLS);
            long result = state;
            for (int kind = 0; kind < kinds.count; kind++) {
                int at = KIND_AT + 4 * kind;
                long left = state >>> at & 15;
                long room = open / Math.max(kinds.sizeOf[kind], 1);
                result -= Math.max(left - room, 0) << at;
            }
            return result;
        }

        private void collectKind(int first, int kind) {
            int begin = pieceCount;
            for (int i = 0; i < kinds.shapeCounts[kind]; i++) {
                long shape = kinds.shapes[kind * Kinds.MOTIONS + i];
                long tag = ((long) kind << KIND_AT) | motionsOf(kind, shape);
                // The first cell is in the upper row of the shape, but any one of it if the shape goes round.
                for (int part = 0; part < Kinds.SIDE; part++) {
                    int covered = (shape >>> part & 1) != 0 ? coveredBy(shape, part, first) : 0;
                    if (covered != 0) {
                        insert(begin, tag | covered);
                    }
                }
            }
        }

        private long motionsOf(int kind, long shape) {
            long motions = 0;
            for (int motion = 0; motion < Kinds.MOTIONS; motion++) {
                if ((group >>> motion & 1) != 0 && kinds.isShapeOf(kind, Kinds.moved(shape, motion))) {
                    motions |= 1L << (MOTIONS_AT + motion);
                }
            }
            return motions;
        }

        /** The cells of a shape, one part of which is at the cell that is to be the first; 0 if it can't be so. */
        private int coveredBy(long shape, int part, int first) {
            int aside = cellAt[first] % Board.SIDE - part % Kinds.SIDE;
            int below = cellAt[first] / Board.SIDE - part / Kinds.SIDE;
            int covered = 0;
            for (int i = 0; i < Kinds.SIDE * Kinds.SIDE; i++) {
                if ((shape >>> i & 1) != 0) {
                    int x = aside + i % Kinds.SIDE;
                    x = board.isRolled ? Math.floorMod(x, board.width) : x;
                    int y = below + i / Kinds.SIDE;
                    boolean isInside = x >= 0 && x < Board.SIDE && y >= 0 && y < Board.SIDE;
                    int index = isInside ? indexOf[Board.SIDE * y + x] : -1;
                    if (index < first || (covered >>> index & 1) != 0) {
                        return 0;
                    }
                    covered |= 1 << index;
                }
            }
            return covered;
        }

        private void insert(int begin, long piece) {
            if (pieceCount >= ROOM) {
                return;
            }
            for (int i = begin; i < pieceCount; i++) {
                if (((pieces[i] ^ piece) & CELLS) == 0) {
                    return;
                }
            }
            int place = pieceCount;
            for (int i = pieceCount; i > begin && isAhead(piece, pieces[i - 1]); i--) {
                pieces[i] = pieces[i - 1];
                place = i - 1;
            }
            pieces[place] = piece;
            pieceCount++;
        }

        private static boolean isAhead(long piece, long another) {
            long unlikeCells = (piece ^ another) & CELLS;
            return (piece & unlikeCells & -unlikeCells) != 0;
        }

        /** How many ways lead on from a state to the end, with the weights of the ends. */
        private long search(long state, int depth) {
            int open = firstOpen(state);
            if (open >= cellCount) {
                return weigh(state);
            }
            if (depth >= MOST_PIECES) {
                return 0;
            }
            int slot = (int) ((state * SPREAD) >>> (LONG_BITS - KEY_BITS));
            if (keys[slot] == state + 1) {
                return values[slot];
            }
            long sum = sumOver(state, open, depth);
            keys[slot] = state + 1;
            values[slot] = sum;
            return sum;
        }

        private long sumOver(long state, int open, int depth) {
            long sum = 0;
            for (int i = starts[open]; i < starts[open + 1]; i++) {
                long after = with(state, pieces[i]);
                if (after >= 0) {
                    sum += search(after, depth + 1);
                }
            }
            return sum;
        }

        private static int firstOpen(long state) {
            return Long.bitCount(state & ~(state + 1) & CELLS);
        }

        private static long weigh(long state) {
            int motions = Long.bitCount(state & MOTIONS);
            return motions == 0 ? 1 : WEIGHT / motions;
        }

        /** A state with a piece, and with what the motion makes of it, or -1 if they can't be put. */
        private long with(long state, long piece) {
            int motion = (int) (state >>> MOTION_AT);
            int kind = (int) (piece >>> KIND_AT);
            int left = KIND_AT + 4 * kind;
            long result = state;
            long put = piece;
            for (int i = 0; i < 4; i++) {
                if ((result & put & CELLS) != 0 || (result >>> left & 15) == 0) {
                    return -1;
                }
                result = (result & ~(MOTIONS & ~put) | put & CELLS) - (1L << left);
                put = motion == 0 ? piece : imageOf(put, kind, motion);
                if (put < 0) {
                    return -1;
                }
                if (put == piece) {
                    break;
                }
            }
            return bounded(result);
        }

        /** What a motion makes of a piece, or -1 if that is none of its kind, so that it has no place here. */
        private long imageOf(long piece, int kind, int motion) {
            long image = 0;
            for (int i = 0; i < cellCount; i++) {
                if ((piece >>> i & 1) != 0) {
                    image |= 1L << movedTo[motion * EXACT_CELLS + i];
                }
            }
            int first = Math.min(Long.bitCount(~image & (image - 1)), EXACT_CELLS - 1);
            for (int i = starts[first]; i < starts[first + 1]; i++) {
                if ((pieces[i] & CELLS) == image && pieces[i] >>> KIND_AT == kind) {
                    return pieces[i];
                }
            }
            return -1;
        }

        /** Chooses the pieces of the exact cover of a number, once refresh() has been called. */
        private void choose(long number) {
            long left = number;
            long state = beginning();
            chosenCount = 0;
            for (int depth = 0; depth < MOST_PIECES && firstOpen(state) < cellCount; depth++) {
                int open = firstOpen(state);
                for (int i = starts[open]; i < starts[open + 1]; i++) {
                    long after = with(state, pieces[i]);
                    long many = depth == 0 && i < OPENINGS ? openings[i] : (after < 0 ? 0 : search(after, depth + 1));
                    if (left < many) {
                        chosen[depth] = i;
                        chosenCount = depth + 1;
                        state = after;
                        break;
                    }
                    left -= many;
                }
            }
        }

        private long chosenNumber() {
            long sum = 0;
            long state = beginning();
            for (int depth = 0; depth < chosenCount && state >= 0; depth++) {
                int open = firstOpen(state);
                for (int i = open < cellCount ? starts[open] : 0; i < chosen[depth]; i++) {
                    long after = with(state, pieces[i]);
                    sum += depth == 0 && i < OPENINGS ? openings[i] : (after < 0 ? 0 : search(after, depth + 1));
                }
                state = with(state, pieces[chosen[depth]]);
            }
            return state < 0 ? -1 : sum;
        }

        private int chosenKind(int x, int y) {
            int index = indexOf[Board.SIDE * y + x];
            for (int i = 0; i < chosenCount; i++) {
                if ((pieces[chosen[i]] >>> index & 1) != 0) {
                    return (int) (pieces[chosen[i]] >>> KIND_AT);
                }
            }
            return -1;
        }
    }

    /** Strips, counted by the rules of their widths; the first ones of each width by a front. */
    private static final class Growth {
        private static final int WIDEST = 6;
        private static final int LONGEST = 300;
        private static final int LIMBS = 26;
        private static final int TERMS = 9;
        private static final int[] ENDS = {0, 2, 4, 8, 12, 20, 28};
        private static final int[] FACTORS = {
            0, 1,
            1, 1,
            0, 4, 0, -1,
            1, 5, 1, -1,
            0, 15, 0, -32, 0, 15, 0, -1,
            1, 20, 10, -38, -10, 20, -1, -1
        };

        /** The latest terms, so many limbs each; the one of a length stands at its remainder by TERMS. */
        private final int[] terms;
        private final long[] come;
        private final long[] go;

        private Growth() {
            terms = new int[TERMS * LIMBS];
            come = new long[1 << WIDEST];
            go = new long[1 << WIDEST];
        }

        private static int orderOf(int width) {
            return ENDS[width] - ENDS[width - 1];
        }

        private static int factor(int width, int index) {
            return FACTORS[ENDS[width - 1] + index - 1];
        }

        private void byRule(int width, int length, BigNumber into) {
            int order = orderOf(width);
            for (int i = 0; i <= length; i++) {
                if (i < order) {
                    putTerm(i, byFront(width, i));
                } else {
                    addTerms(width, i);
                }
            }
            into.putLimbs(terms, length % TERMS * LIMBS, LIMBS);
        }

        private void putTerm(int length, long value) {
            int start = length % TERMS * LIMBS;
            long left = value;
            for (int i = 0; i < LIMBS; i++) {
                terms[start + i] = (int) (left % BigNumber.BASE);
                left /= BigNumber.BASE;
            }
        }

        private void addTerms(int width, int length) {
            int order = orderOf(width);
            int start = length % TERMS * LIMBS;
            long carry = 0;
            for (int limb = 0; limb < LIMBS; limb++) {
                long sum = carry;
                for (int i = 1; i <= order && i <= length; i++) {
                    sum += (long) factor(width, i) * terms[(length - i) % TERMS * LIMBS + limb];
                }
                terms[start + limb] = (int) Math.floorMod(sum, (long) BigNumber.BASE);
                carry = Math.floorDiv(sum, (long) BigNumber.BASE);
            }
        }

        /** Counts a strip cell by cell, a column of its width after the other; for lengths that a long can hold. */
        private long byFront(int width, int length) {
            Arrays.fill(come, 0);
            come[0] = 1;
            for (int column = 0; column < length; column++) {
                for (int x = 0; x < width; x++) {
                    passCell(x, width);
                    System.arraycopy(go, 0, come, 0, come.length);
                }
            }
            return come[0];
        }

        private void passCell(int x, int width) {
            int mark = 1 << x;
            int beside = mark << 1;
            Arrays.fill(go, 0);
            for (int mask = 0; mask < 1 << width; mask++) {
                if ((mask & mark) != 0) {
                    go[mask & ~mark] += come[mask];
                } else {
                    go[mask | mark] += come[mask];
                    if (x + 1 < width && (mask & beside) == 0) {
                        go[mask | beside] += come[mask];
                    }
                }
            }
        }
    }

    /** Rooks by sets of taken columns; loops by a front of open ends, '(' and ')' of the same way as 1 and 2. */
    private static final class RooksAndLoops {
        private static final int MASKS = 256;
        private static final int ROOM = 1024;
        private static final int SLOT_BITS = 10;
        private static final int INT_BITS = 32;
        private static final int KEY_BITS = 18;
        private static final int KEY = (1 << KEY_BITS) - 1;
        private static final int OPENS = 1;
        private static final int CLOSES = 2;
        private static final int SPREAD = 0x9E3779B1;

        private final Board board;
        private final long[] ways;
        /** Entries of a key and, above it, how many ways there are; 0 if there is no entry. */
        private final long[] come;
        private final long[] go;
        private long closed;

        private RooksAndLoops(Board board) {
            this.board = board;
            ways = new long[MASKS];
            come = new long[ROOM];
            go = new long[ROOM];
        }

        /** Sets of taken columns go down, so that each row puts one rook at most. */
        private void fillWays() {
            Arrays.fill(ways, 0);
            ways[0] = 1;
            for (int y = 0; y < board.height; y++) {
                int row = (int) (board.cells >>> (Board.SIDE * y)) & (MASKS - 1);
                for (int mask = MASKS - 1; mask >= 0; mask--) {
                    int open = row & ~mask;
                    for (int x = 0; x < Board.SIDE && ways[mask] != 0; x++) {
                        if ((open >>> x & 1) != 0) {
                            ways[mask | 1 << x] += ways[mask];
                        }
                    }
                }
            }
        }

        private long countRooks(int many) {
            fillWays();
            long sum = 0;
            for (int mask = 0; mask < MASKS; mask++) {
                sum += Integer.bitCount(mask) == many ? ways[mask] : 0;
            }
            return sum;
        }

        private int findMostRooks() {
            fillWays();
            int most = 0;
            for (int mask = 0; mask < MASKS; mask++) {
                if (ways[mask] != 0) {
                    most = Math.max(most, Integer.bitCount(mask));
                }
            }
            return most;
        }

        private long countLoops() {
            Arrays.fill(go, 0);
            add(0, 1);
            closed = 0;
            for (int y = 0; y < board.height; y++) {
                for (int x = 0; x < board.width; x++) {
                    System.arraycopy(go, 0, come, 0, ROOM);
                    Arrays.fill(go, 0);
                    for (int i = 0; i < ROOM; i++) {
                        if (come[i] != 0) {
                            int key = (int) (come[i] & KEY);
                            // At the beginning of a row the end on the right of the row above has fallen away.
                            passCell(x, y, x == 0 ? key << 2 & KEY : key, come[i] >>> KEY_BITS);
                        }
                    }
                }
            }
            return closed;
        }

        private void add(int key, long many) {
            int slot = (key * SPREAD) >>> (INT_BITS - SLOT_BITS);
            for (int i = 0; i < ROOM; i++) {
                int at = (slot + i) & (ROOM - 1);
                if (go[at] == 0) {
                    go[at] = (many << KEY_BITS) | key;
                    return;
                }
                if ((go[at] & KEY) == key) {
                    go[at] += many << KEY_BITS;
                    return;
                }
            }
        }

        /** Goes through a cell, which has two ends, or none if it is missing; x tells where its ends stand in the key. */
        private void passCell(int x, int y, int key, long many) {
            int left = key >>> (2 * x) & 3;
            int up = key >>> (2 * x + 2) & 3;
            int rest = key & ~(15 << (2 * x));
            boolean goesDown = board.holds(x, y + 1);
            boolean goesRight = board.holds(x + 1, y);
            if (!board.holds(x, y)) {
                if (left == 0 && up == 0) {
                    add(rest, many);
                }
            } else if (left == 0 && up == 0) {
                if (goesDown && goesRight) {
                    add(rest | OPENS << (2 * x) | CLOSES << (2 * x + 2), many);
                }
            } else if (left == 0 || up == 0) {
                if (goesDown) {
                    add(rest | (left | up) << (2 * x), many);
                }
                if (goesRight) {
                    add(rest | (left | up) << (2 * x + 2), many);
                }
            } else {
                join(x, y, left, up, rest, many);
            }
        }

        private void join(int x, int y, int left, int up, int rest, long many) {
            if (left == OPENS && up == CLOSES) {
                if (rest == 0 && board.cells >>> (Board.SIDE * y + x) == 1) {
                    closed += many;
                }
            } else if (left == CLOSES && up == OPENS) {
                add(rest, many);
            } else if (left == OPENS) {
                add(rest ^ 3 << (2 * mateOf(rest, x + 1, 1)), many);
            } else {
                add(rest ^ 3 << (2 * mateOf(rest, x, -1)), many);
            }
        }

        /** Where the mate of an end stands, which has just been taken out of the key. */
        private static int mateOf(int key, int place, int step) {
            int own = step > 0 ? OPENS : CLOSES;
            int open = 1;
            for (int i = 1; i <= Board.SIDE; i++) {
                int at = place + step * i;
                if (at < 0 || at > Board.SIDE) {
                    break;
                }
                int end = key >>> (2 * at) & 3;
                if (end != 0) {
                    open += end == own ? 1 : -1;
                }
                if (open == 0) {
                    return at;
                }
            }
            return place;
        }
    }
}
