import java.math.BigInteger;
import java.util.ArrayList;
import java.util.Arrays;
import java.util.HashMap;
import java.util.HashSet;
import java.util.List;
import java.util.Map;
import java.util.NoSuchElementException;
import java.util.Random;
import java.util.Set;
import java.util.TreeSet;
import java.util.concurrent.Callable;

/**
 * Runs of calls by chance (always the same ones), each answer set against a model that lists covers one by one and
 * knows nothing of fronts, determinants, rules and paths.
 */
public final class OracleTest {

    private static int wrong = 0;
    private static int calls = 0;
    private static int thrown = 0;

    public static void main(String[] args) throws Exception {
        long runs = args.length > 0 ? Long.parseLong(args[0]) : 1500;
        long first = args.length > 1 ? Long.parseLong(args[1]) : 1;
        for (long seed = first; seed < first + runs; seed++) {
            new Run(seed).go();
            new Run(seed).goExact();
            new Run(seed).goCovers();
        }
        System.out.println(runs + " runs, " + calls + " calls, " + thrown + " of them throw, " + wrong + " wrong");
        if (wrong > 0) {
            System.exit(1);
        }
    }

    /** One run of calls on a fresh object and a fresh model. */
    private static final class Run {
        private final Random chance;
        private final long seed;
        private final Tilecount real = new Tilecount();
        private final Model model = new Model();
        private final StringBuilder told = new StringBuilder();
        private boolean isOff = false;

        Run(long seed) {
            this.seed = seed;
            chance = new Random(seed * 7919);
        }

        void go() throws Exception {
            int mode = chance.nextInt(4);
            if (chance.nextInt(6) == 0) {
                startBlocks();
            } else {
                startBoard();
            }
            if (mode == 2) {
                makeKinds();
            }
            int many = 20 + chance.nextInt(60);
            for (int i = 0; i < many && !isOff; i++) {
                step(mode);
                if (i % 8 == 7) {
                    same("checksum()", real::checksum, model::checksum);
                    sameText();
                }
            }
            if (!isOff) {
                same("checksum()", real::checksum, model::checksum);
                same("isSound()", real::isSound, () -> true);
                same("checksum()", real::checksum, model::checksum);
            }
        }

        /** Kinds on a small board: each exact cover that is numbered low, told cell by cell. */
        void goExact() {
            if (chance.nextBoolean()) {
                startBoard();
            } else {
                startEven();
            }
            int kinds = 1 + chance.nextInt(5);
            for (int i = 0; i < kinds; i++) {
                if (chance.nextInt(3) == 0) {
                    makeCorner();
                } else {
                    makeKind();
                }
            }
            same("exact()", real::exact, model::exact);
            same("unlike()", real::unlike, model::unlike);
            int many = isOff ? 0 : Math.min(model.exactSize(), 12);
            for (int i = 0; i < many; i++) {
                int index = model.exactSize() - 1 - i < 6 ? model.exactSize() - 1 - i : i * i;
                for (int y = 0; y < model.h; y++) {
                    for (int x = 0; x < model.w; x++) {
                        int column = x;
                        int row = y;
                        same("kindAt " + index + " " + x + " " + y,
                            () -> real.kindAt(index, column, row), () -> model.kindAt(index, column, row));
                    }
                }
            }
        }

        /** Boards that all turns and mirrorings take to themselves. */
        private void startEven() {
            int n = 3 + chance.nextInt(4);
            board(n, n);
            boolean[] isLeft = new boolean[64];
            for (int i = 0; i < 64; i++) {
                int x = i % 8;
                int y = i / 8;
                if (x < n && y < n) {
                    int a = Math.min(x, n - 1 - x);
                    int b = Math.min(y, n - 1 - y);
                    int like = 8 * Math.min(a, b) + Math.max(a, b);
                    isLeft[i] = like == i ? chance.nextInt(5) < 3 : isLeft[like];
                    if (!isLeft[i]) {
                        same("cut " + x + " " + y, () -> real.cut(x, y), () -> model.cut(x, y));
                    }
                }
            }
        }

        /** Pieces that a diagonal takes to themselves, so that turning and mirroring them can be the same. */
        private void makeCorner() {
            int size = 2 + chance.nextInt(2);
            for (int i = 0; i < size; i++) {
                pieceCell(i, 2);
                pieceCell(0, 2 - i);
            }
            boolean isMirrored = chance.nextInt(3) > 0;
            same("kind false " + isMirrored, () -> real.kind(false, isMirrored, 8),
                () -> model.kind(false, isMirrored, 8));
        }

        /** All covers of a board one after the other, forward or backward, told cell by cell. */
        void goCovers() {
            startBoard();
            same("covers()", real::covers, model::countCovers);
            same("draw 0", () -> real.draw(0), () -> model.draw(0));
            boolean isForward = chance.nextBoolean();
            for (int i = 0; i < 40 && !isOff; i++) {
                same("checksum()", real::checksum, model::checksum);
                if (isForward) {
                    same("next()", real::next, model::next);
                } else {
                    same("previous()", real::previous, model::previous);
                }
                same("flips()", real::flips, model::flips);
                same("cuts()", real::cuts, model::cuts);
                same("number()", real::number, model::number);
            }
        }

        private void startBoard() {
            int w = 1 + chance.nextInt(8);
            int h = 1 + chance.nextInt(8);
            while (w * h > 24) {
                w = 1 + chance.nextInt(8);
                h = 1 + chance.nextInt(8);
            }
            board(w, h);
            if (chance.nextInt(3) == 0) {
                same("roll(true)", () -> real.roll(true), () -> model.roll(true));
            }
            int cuts = chance.nextInt(2) * chance.nextInt(8);
            for (int i = 0; i < cuts; i++) {
                int x = chance.nextInt(w);
                int y = chance.nextInt(h);
                same("cut " + x + " " + y, () -> real.cut(x, y), () -> model.cut(x, y));
            }
        }

        /** Blocks of two by two that hang together on a wide board, so that there are loops and covers. */
        private void startBlocks() {
            board(8, 8);
            Set<Integer> blocks = new TreeSet<>();
            int block = chance.nextInt(16);
            for (int i = 0; i < 60 && blocks.size() < 4 + chance.nextInt(5); i++) {
                blocks.add(block);
                int x = Math.floorMod(block % 4 + (chance.nextBoolean() ? 1 - 2 * chance.nextInt(2) : 0), 4);
                int y = Math.floorMod(block / 4 + (chance.nextBoolean() ? 1 - 2 * chance.nextInt(2) : 0), 4);
                block = 4 * y + x;
            }
            for (int i = 0; i < 64; i++) {
                int x = i % 8;
                int y = i / 8;
                if (!blocks.contains(4 * (y / 2) + x / 2) || chance.nextInt(60) == 0) {
                    same("cut " + x + " " + y, () -> real.cut(x, y), () -> model.cut(x, y));
                }
            }
            same("loops", real::loops, model::loops);
        }

        private void board(int w, int h) {
            same("board " + w + " " + h, () -> real.board(w, h), () -> model.board(w, h));
        }

        private void makeKinds() {
            int many = 1 + chance.nextInt(4);
            for (int i = 0; i < many; i++) {
                makeKind();
            }
        }

        private void makeKind() {
            int x = chance.nextInt(3);
            int y = chance.nextInt(3);
            int size = 3 + chance.nextInt(chance.nextInt(4) + 1);
            for (int i = 0; i < size; i++) {
                pieceCell(x, y);
                if (chance.nextBoolean()) {
                    x = Math.max(0, Math.min(5, x + chance.nextInt(3) - 1));
                } else {
                    y = Math.max(0, Math.min(5, y + chance.nextInt(3) - 1));
                }
            }
            kind();
        }

        private void pieceCell(int x, int y) {
            same("pieceCell " + x + " " + y, () -> real.pieceCell(x, y), () -> model.pieceCell(x, y));
        }

        private void kind() {
            boolean isTurned = chance.nextBoolean();
            boolean isMirrored = chance.nextBoolean();
            int many = chance.nextInt(12) == 0 ? chance.nextInt(12) - 1 : 1 + chance.nextInt(8);
            same("kind " + isTurned + " " + isMirrored + " " + many,
                () -> real.kind(isTurned, isMirrored, many), () -> model.kind(isTurned, isMirrored, many));
        }

        private int near(int size) {
            return chance.nextInt(15) == 0 ? chance.nextInt(20) - 6 : chance.nextInt(size);
        }

        private void step(int mode) {
            int which = mode == 2 && chance.nextBoolean() ? 60 + chance.nextInt(12) : chance.nextInt(72);
            if (which < 36) {
                coverStep(which);
            } else if (which < 60) {
                boardStep(which);
            } else {
                kindStep(which);
            }
        }

        private void coverStep(int which) {
            int x = near(model.w);
            int y = near(model.h);
            if (which < 4) {
                long n = chance.nextInt(4) == 0 ? chance.nextLong() : chance.nextInt(300) - 20;
                same("draw " + n, () -> real.draw(n), () -> model.draw(n));
            } else if (which < 7) {
                same("next", real::next, model::next);
            } else if (which < 10) {
                same("previous", real::previous, model::previous);
            } else if (which < 13) {
                same("number", real::number, model::number);
            } else if (which < 16) {
                same("other " + x + " " + y, () -> real.other(x, y), () -> model.other(x, y));
            } else if (which < 18) {
                same("flips", real::flips, model::flips);
            } else if (which < 22) {
                int index = chance.nextInt(8) - 1;
                same("flip " + index, () -> real.flip(index), () -> model.flip(index));
            } else if (which < 25) {
                same("undo", real::undo, model::undo);
            } else if (which < 27) {
                same("keep", real::keep, model::keep);
            } else if (which < 31) {
                same("apart", real::apart, model::apart);
            } else if (which < 34) {
                same("height " + x + " " + y, () -> real.height(x, y), () -> model.height(x, y));
            } else {
                same("cuts", real::cuts, model::cuts);
            }
        }

        private void boardStep(int which) {
            int x = near(model.w);
            int y = near(model.h);
            boolean is = chance.nextBoolean();
            if (which < 37) {
                boardOrForm();
            } else if (which < 39) {
                same("cut " + x + " " + y, () -> real.cut(x, y), () -> model.cut(x, y));
            } else if (which < 41) {
                same("fill " + x + " " + y, () -> real.fill(x, y), () -> model.fill(x, y));
            } else if (which < 42) {
                same("roll " + is, () -> real.roll(is), () -> model.roll(is));
            } else if (which < 43) {
                char what = "adx".charAt(chance.nextInt(3));
                same("cells " + what, () -> real.cells(what), () -> model.cells(what));
                same("has " + x + " " + y, () -> real.has(x, y), () -> model.has(x, y));
            } else if (which < 44) {
                same("parts", real::parts, model::parts);
                same("holes", real::holes, model::holes);
                same("meanPart", real::meanPart, model::meanPart);
            } else if (which < 46) {
                same("covers", real::covers, model::countCovers);
            } else if (which < 48) {
                same("bySigns", real::bySigns, model::bySigns);
            } else if (which < 50) {
                same("having " + x + " " + y + is, () -> real.having(x, y, is), () -> model.having(x, y, is));
            } else if (which < 51) {
                int place = chance.nextInt(6) - 1;
                same("signAt " + place, () -> real.signAt(place), () -> model.signAt(place));
            } else if (which < 53) {
                same("free", real::free, model::free);
            } else if (which < 55) {
                same("role " + x + " " + y, () -> real.role(x, y), () -> model.role(x, y));
            } else if (which < 56) {
                char role = "fn-x".charAt(chance.nextInt(4));
                same("roles " + role, () -> real.roles(role), () -> model.roles(role));
            } else if (which < 57) {
                same("share " + x + " " + y + is, () -> real.share(x, y, is), () -> model.share(x, y, is));
            } else {
                rooksAndLoops(which);
            }
        }

        private void rooksAndLoops(int which) {
            int k = chance.nextInt(11) - 1;
            if (which < 58) {
                same("rooks " + k, () -> real.rooks(k), () -> model.rooks(k));
                same("mostRooks", real::mostRooks, model::mostRooks);
            } else if (which < 59) {
                same("loops", real::loops, model::loops);
            } else {
                same("isSound", real::isSound, () -> true);
            }
        }

        private void boardOrForm() {
            int n = chance.nextInt(6) - 1;
            char kind = "asocb".charAt(chance.nextInt(5));
            int side = kind == 'a' ? 2 * n : n;
            if (chance.nextBoolean() && side * side <= 25) {
                same("form " + kind + n, () -> real.form(kind, n), () -> model.form(kind, n));
            } else {
                board(near(6), near(5));
            }
        }

        private void kindStep(int which) {
            int x = near(model.w);
            int y = near(model.h);
            if (which < 61) {
                pieceCell(near(6), near(6));
            } else if (which < 62) {
                kind();
            } else if (which < 63) {
                makeKind();
            } else if (which < 64) {
                if (chance.nextInt(3) == 0) {
                    same("clear", real::clear, model::clear);
                }
            } else if (which < 66) {
                same("exact", real::exact, model::exact);
            } else if (which < 69) {
                same("unlike", real::unlike, model::unlike);
            } else {
                int index = chance.nextInt(chance.nextInt(3) == 0 ? 40 : 5) - 1;
                same("kindAt " + index + " " + x + " " + y,
                    () -> real.kindAt(index, x, y), () -> model.kindAt(index, x, y));
            }
        }

        private void sameText() {
            String text = model.text;
            for (int i = -1; i <= text.length(); i++) {
                int place = i;
                same("signAt " + place, () -> real.signAt(place), () -> model.signAt(place));
            }
        }

        private void same(String call, Callable<Object> got, Callable<Object> due) {
            if (isOff) {
                return;
            }
            calls++;
            Object want = outcome(due);
            Object answer = outcome(got);
            told.append(call).append("; ");
            if (want instanceof String) {
                thrown++;
            }
            if (!answer.equals(want)) {
                wrong++;
                isOff = true;
                System.out.println("run " + seed + ": " + told + " answered " + answer + ", due is " + want);
            }
        }

        private static Object outcome(Callable<Object> call) {
            try {
                return call.call();
            } catch (Exception e) {
                return "throws " + e.getClass().getSimpleName();
            }
        }
    }

    /** The document's words, done in the plainest way. */
    private static final class Model {
        int w = 1;
        int h = 1;
        private boolean isRolled = false;
        private boolean[][] on = new boolean[8][8];
        private List<String> all = null;
        private String cover = null;
        private String kept = null;
        private final List<String> past = new ArrayList<>();
        String text = "";
        private Set<Integer> typed = new TreeSet<>();
        private final List<Set<Set<Integer>>> kinds = new ArrayList<>();
        private final List<Integer> manies = new ArrayList<>();
        private List<List<Piece>> exacts = null;

        private static final class Piece {
            final int kind;
            final TreeSet<Integer> cells;

            Piece(int kind, TreeSet<Integer> cells) {
                this.kind = kind;
                this.cells = cells;
            }
        }

        private void changed() {
            all = null;
            exacts = null;
            cover = null;
            kept = null;
            past.clear();
        }

        private int size() {
            int many = 0;
            for (int y = 0; y < h; y++) {
                for (int x = 0; x < w; x++) {
                    many += on[y][x] ? 1 : 0;
                }
            }
            return many;
        }

        private int put(BigInteger value) {
            text = value.toString();
            return text.length();
        }

        private int put(long value) {
            return put(BigInteger.valueOf(value));
        }

        Object board(int width, int height) {
            if (width < 1 || width > 8 || height < 1 || height > 8) {
                throw new IllegalArgumentException();
            }
            w = width;
            h = height;
            isRolled = false;
            on = new boolean[8][8];
            for (int y = 0; y < h; y++) {
                for (int x = 0; x < w; x++) {
                    on[y][x] = true;
                }
            }
            changed();
            return size();
        }

        Object form(char kind, int n) {
            int least = kind == 'o' ? 3 : kind == 'c' ? 2 : 1;
            if ("asoc".indexOf(kind) < 0 || n < least || n > (kind == 'a' ? 4 : 8)) {
                throw new IllegalArgumentException();
            }
            int side = kind == 'a' ? 2 * n : n;
            board(side, side);
            for (int y = 0; y < side; y++) {
                for (int x = 0; x < side; x++) {
                    if (kind == 'a') {
                        int up = Math.min(y, side - 1 - y);
                        int missing = n - 1 - up;
                        on[y][x] = x >= missing && x < side - missing;
                    } else if (kind == 's') {
                        on[y][x] = x <= y;
                    } else if (kind == 'o') {
                        on[y][x] = x == 0 || y == 0 || x == n - 1 || y == n - 1;
                    }
                }
            }
            if (kind == 'c') {
                on[0][0] = false;
                on[n - 1][n - 1] = false;
            }
            changed();
            return size();
        }

        Object cut(int x, int y) {
            if (!is(x, y)) {
                throw new IndexOutOfBoundsException();
            }
            on[y][x] = false;
            changed();
            return size();
        }

        Object fill(int x, int y) {
            if (x < 0 || y < 0 || x >= w || y >= h || on[y][x]) {
                throw new IndexOutOfBoundsException();
            }
            on[y][x] = true;
            changed();
            return size();
        }

        Object roll(boolean to) {
            if (to && (w % 2 != 0 || w < 4)) {
                throw new UnsupportedOperationException();
            }
            boolean was = isRolled;
            isRolled = to;
            changed();
            return was;
        }

        private boolean is(int x, int y) {
            return x >= 0 && y >= 0 && x < w && y < h && on[y][x];
        }

        Object has(int x, int y) {
            return is(x, y);
        }

        Object cells(char what) {
            if (what == 'a') {
                return size();
            }
            if (what != 'd') {
                throw new IllegalArgumentException();
            }
            int many = 0;
            for (int y = 0; y < h; y++) {
                for (int x = 0; x < w; x++) {
                    many += on[y][x] && (x + y) % 2 == 0 ? 1 : 0;
                }
            }
            return many;
        }

        private int wrap(int x) {
            return isRolled ? Math.floorMod(x, w) : x;
        }

        private int[][] around(int x, int y) {
            return new int[][] {{wrap(x + 1), y}, {wrap(x - 1), y}, {x, y + 1}, {x, y - 1}};
        }

        private void flood(int x, int y, boolean what, boolean[][] seen, boolean[] rim) {
            if (x < 0 || y < 0 || x >= w || y >= h || on[y][x] != what || seen[y][x]) {
                return;
            }
            seen[y][x] = true;
            if (y == 0 || y == h - 1 || (!isRolled && (x == 0 || x == w - 1))) {
                rim[0] = true;
            }
            for (int[] to : around(x, y)) {
                flood(to[0], to[1], what, seen, rim);
            }
        }

        Object parts() {
            return groups(true);
        }

        Object holes() {
            return groups(false);
        }

        private int groups(boolean what) {
            boolean[][] seen = new boolean[8][8];
            int many = 0;
            for (int y = 0; y < h; y++) {
                for (int x = 0; x < w; x++) {
                    if (on[y][x] == what && !seen[y][x]) {
                        boolean[] rim = {false};
                        flood(x, y, what, seen, rim);
                        many += what || !rim[0] ? 1 : 0;
                    }
                }
            }
            return many;
        }

        private boolean isPlain() {
            return !isRolled && groups(false) == 0;
        }

        /** A cover is a text of 64 signs: what other() tells, or '.' where the board has no cell. */
        private List<String> covers() {
            if (all == null) {
                all = new ArrayList<>();
                char[] codes = new char[64];
                Arrays.fill(codes, '.');
                list(codes);
                all.sort((a, b) -> {
                    for (int i = 0; i < 64; i++) {
                        if (a.charAt(i) != b.charAt(i)) {
                            return "esw".indexOf(a.charAt(i)) - "esw".indexOf(b.charAt(i));
                        }
                    }
                    return 0;
                });
            }
            return all;
        }

        private void list(char[] codes) {
            for (int y = 0; y < h; y++) {
                for (int x = 0; x < w; x++) {
                    if (on[y][x] && codes[8 * y + x] == '.') {
                        int[][] to = around(x, y);
                        for (int i = 0; i < 4; i++) {
                            if (is(to[i][0], to[i][1]) && codes[8 * to[i][1] + to[i][0]] == '.') {
                                codes[8 * y + x] = "ewsn".charAt(i);
                                codes[8 * to[i][1] + to[i][0]] = "wens".charAt(i);
                                list(codes);
                                codes[8 * y + x] = '.';
                                codes[8 * to[i][1] + to[i][0]] = '.';
                            }
                        }
                        return;
                    }
                }
            }
            all.add(new String(codes));
        }

        Object countCovers() {
            return put(covers().size());
        }

        Object bySigns() {
            if (!isPlain()) {
                throw new UnsupportedOperationException();
            }
            return put(covers().size());
        }

        private int with(int x, int y, boolean isAcross) {
            if (!is(x, y) || (isAcross ? !is(wrap(x + 1), y) : !is(x, y + 1))) {
                throw new IndexOutOfBoundsException();
            }
            int many = 0;
            for (String one : covers()) {
                many += one.charAt(8 * y + x) == (isAcross ? 'e' : 's') ? 1 : 0;
            }
            return many;
        }

        Object having(int x, int y, boolean isAcross) {
            return put(with(x, y, isAcross));
        }

        Object share(int x, int y, boolean isAcross) {
            int many = with(x, y, isAcross);
            if (covers().isEmpty()) {
                throw new ArithmeticException();
            }
            return (float) many / (float) covers().size();
        }

        Object meanPart() {
            if (size() == 0) {
                throw new ArithmeticException();
            }
            return (double) size() / (double) groups(true);
        }

        Object signAt(int place) {
            if (place < 0 || place >= text.length()) {
                throw new IndexOutOfBoundsException();
            }
            return text.charAt(place);
        }

        private void become(String to) {
            past.add(cover);
            if (past.size() > 10) {
                past.remove(0);
            }
            cover = to;
        }

        private void needCover() {
            if (cover == null) {
                throw new NoSuchElementException();
            }
        }

        Object draw(long number) {
            int many = covers().size();
            if (many == 0) {
                throw new NoSuchElementException();
            }
            become(covers().get(BigInteger.valueOf(number).mod(BigInteger.valueOf(many)).intValue()));
            return size() / 2;
        }

        Object next() {
            needCover();
            int to = covers().indexOf(cover) + 1;
            boolean isLast = to == covers().size();
            become(covers().get(isLast ? 0 : to));
            return !isLast;
        }

        Object previous() {
            needCover();
            int to = covers().indexOf(cover) - 1;
            become(covers().get(to < 0 ? covers().size() - 1 : to));
            return to >= 0;
        }

        Object number() {
            needCover();
            return put(covers().indexOf(cover));
        }

        Object other(int x, int y) {
            if (!is(x, y)) {
                throw new IndexOutOfBoundsException();
            }
            needCover();
            return cover.charAt(8 * y + x);
        }

        private List<String> flipped(String from) {
            List<String> found = new ArrayList<>();
            for (int y = 0; y + 1 < h; y++) {
                for (int x = 0; x < w; x++) {
                    int right = wrap(x + 1);
                    if (right < w) {
                        int[] four = {8 * y + x, 8 * y + right, 8 * y + 8 + x, 8 * y + 8 + right};
                        String now = "";
                        for (int cell : four) {
                            now += from.charAt(cell);
                        }
                        String then = now.equals("ewew") ? "ssnn" : now.equals("ssnn") ? "ewew" : null;
                        if (then != null) {
                            char[] codes = from.toCharArray();
                            for (int i = 0; i < 4; i++) {
                                codes[four[i]] = then.charAt(i);
                            }
                            found.add(new String(codes));
                        }
                    }
                }
            }
            return found;
        }

        Object flips() {
            needCover();
            return flipped(cover).size();
        }

        Object flip(int index) {
            needCover();
            List<String> found = flipped(cover);
            if (index < 0 || index >= found.size()) {
                throw new IndexOutOfBoundsException();
            }
            become(found.get(index));
            return flipped(cover).size();
        }

        Object undo() {
            if (past.isEmpty()) {
                throw new IllegalStateException();
            }
            cover = past.remove(past.size() - 1);
            return past.size();
        }

        Object keep() {
            needCover();
            kept = cover;
            return cuts();
        }

        Object cuts() {
            needCover();
            int many = 0;
            for (int x = 0; x < (isRolled ? w : w - 1); x++) {
                boolean isCut = true;
                for (int y = 0; y < h; y++) {
                    isCut = isCut && cover.charAt(8 * y + x) != 'e';
                }
                many += isCut ? 1 : 0;
            }
            for (int y = 0; y + 1 < h; y++) {
                boolean isCut = true;
                for (int x = 0; x < w; x++) {
                    isCut = isCut && cover.charAt(8 * y + x) != 's';
                }
                many += isCut ? 1 : 0;
            }
            return many;
        }

        /** The fewest flips, by going through all covers ring by ring. */
        Object apart() {
            if (!isPlain()) {
                throw new UnsupportedOperationException();
            }
            if (cover == null || kept == null) {
                throw new NoSuchElementException();
            }
            Map<String, Integer> far = new HashMap<>();
            List<String> queue = new ArrayList<>();
            far.put(kept, 0);
            queue.add(kept);
            for (int i = 0; i < queue.size(); i++) {
                for (String one : flipped(queue.get(i))) {
                    if (!far.containsKey(one)) {
                        far.put(one, far.get(queue.get(i)) + 1);
                        queue.add(one);
                    }
                }
            }
            return far.get(cover);
        }

        private boolean isCorner(int x, int y) {
            return is(x, y) || is(x - 1, y) || is(x, y - 1) || is(x - 1, y - 1);
        }

        Object height(int x, int y) {
            if (!isPlain()) {
                throw new UnsupportedOperationException();
            }
            if (!isCorner(x, y)) {
                throw new IndexOutOfBoundsException();
            }
            needCover();
            Integer[][] heights = new Integer[9][9];
            for (int b = 0; b <= h; b++) {
                for (int a = 0; a <= w; a++) {
                    if (isCorner(a, b) && heights[b][a] == null) {
                        heights[b][a] = 0;
                        climb(a, b, heights);
                    }
                }
            }
            return heights[y][x];
        }

        /** Cells on the left and right hand of a step from a corner, by the direction of the step. */
        private void climb(int x, int y, Integer[][] heights) {
            int[][] steps = {{1, 0}, {0, 1}, {-1, 0}, {0, -1}};
            for (int[] step : steps) {
                double midX = x + step[0] / 2.0;
                double midY = y + step[1] / 2.0;
                // With y downward the left hand of a step (dx, dy) is towards (dy, -dx).
                int leftX = (int) Math.floor(midX + step[1] / 2.0);
                int leftY = (int) Math.floor(midY - step[0] / 2.0);
                int rightX = (int) Math.floor(midX - step[1] / 2.0);
                int rightY = (int) Math.floor(midY + step[0] / 2.0);
                int toX = x + step[0];
                int toY = y + step[1];
                if (is(leftX, leftY) || is(rightX, rightY)) {
                    boolean isCrossed = is(leftX, leftY) && is(rightX, rightY)
                        && otherOf(leftX, leftY) == 8 * rightY + rightX;
                    boolean isDark = Math.floorMod(leftX + leftY, 2) == 0;
                    int rise = isDark ? (isCrossed ? -3 : 1) : (isCrossed ? 3 : -1);
                    if (heights[toY][toX] == null) {
                        heights[toY][toX] = heights[y][x] + rise;
                        climb(toX, toY, heights);
                    } else if (heights[toY][toX] != heights[y][x] + rise) {
                        throw new RuntimeException("heights do not fit");
                    }
                }
            }
        }

        private int otherOf(int x, int y) {
            int[][] to = around(x, y);
            int[] one = to["ewsn".indexOf(cover.charAt(8 * y + x))];
            return 8 * one[1] + one[0];
        }

        private int pairs(int withoutX, int withoutY) {
            int[] mate = new int[64];
            Arrays.fill(mate, -1);
            int many = 0;
            for (int y = 0; y < h; y++) {
                for (int x = 0; x < w; x++) {
                    boolean isIn = is(x, y) && (x + y) % 2 == 0 && !(x == withoutX && y == withoutY);
                    if (isIn && tryPair(x, y, mate, new HashSet<>(), withoutX, withoutY)) {
                        many++;
                    }
                }
            }
            return many;
        }

        private boolean tryPair(int x, int y, int[] mate, Set<Integer> seen, int withoutX, int withoutY) {
            for (int[] to : around(x, y)) {
                int cell = 8 * to[1] + to[0];
                boolean isIn = is(to[0], to[1]) && !(to[0] == withoutX && to[1] == withoutY);
                if (isIn && seen.add(cell)) {
                    int before = mate[cell];
                    if (before < 0 || tryPair(before % 8, before / 8, mate, seen, withoutX, withoutY)) {
                        mate[cell] = 8 * y + x;
                        return true;
                    }
                }
            }
            return false;
        }

        Object free() {
            return size() - 2 * pairs(-1, -1);
        }

        private char roleOf(int x, int y) {
            int most = pairs(-1, -1);
            if (pairs(x, y) == most) {
                return 'f';
            }
            for (int[] to : around(x, y)) {
                if (is(to[0], to[1]) && pairs(to[0], to[1]) == most) {
                    return 'n';
                }
            }
            return '-';
        }

        Object role(int x, int y) {
            if (!is(x, y)) {
                throw new IndexOutOfBoundsException();
            }
            return roleOf(x, y);
        }

        Object roles(char role) {
            if ("fn-".indexOf(role) < 0) {
                throw new IllegalArgumentException();
            }
            int many = 0;
            for (int y = 0; y < h; y++) {
                for (int x = 0; x < w; x++) {
                    many += on[y][x] && roleOf(x, y) == role ? 1 : 0;
                }
            }
            return many;
        }

        Object pieceCell(int x, int y) {
            if (x < 0 || x > 5 || y < 0 || y > 5) {
                throw new IllegalArgumentException();
            }
            Set<Integer> others = new TreeSet<>(typed);
            others.remove(100 * y + x);
            if (others.size() >= 6) {
                throw new IllegalStateException();
            }
            typed.add(100 * y + x);
            return typed.size();
        }

        private static Set<Integer> corner(Set<int[]> cells) {
            int left = 1000;
            int up = 1000;
            for (int[] cell : cells) {
                left = Math.min(left, cell[0]);
                up = Math.min(up, cell[1]);
            }
            Set<Integer> moved = new TreeSet<>();
            for (int[] cell : cells) {
                moved.add(100 * (cell[1] - up) + cell[0] - left);
            }
            return moved;
        }

        private static Set<Integer> changed(Set<Integer> shape, boolean isMirrored, int turns) {
            Set<int[]> cells = new HashSet<>();
            for (int cell : shape) {
                int x = cell % 100;
                int y = cell / 100;
                x = isMirrored ? -x : x;
                for (int i = 0; i < turns; i++) {
                    int newX = -y;
                    y = x;
                    x = newX;
                }
                cells.add(new int[] {x, y});
            }
            return corner(cells);
        }

        private boolean hangsTogether() {
            Set<Integer> reached = new TreeSet<>();
            List<Integer> queue = new ArrayList<>();
            queue.add(typed.iterator().next());
            for (int i = 0; i < queue.size(); i++) {
                int cell = queue.get(i);
                if (typed.contains(cell) && reached.add(cell)) {
                    queue.addAll(List.of(cell + 1, cell - 1, cell + 100, cell - 100));
                }
            }
            return reached.size() == typed.size();
        }

        Object kind(boolean isTurned, boolean isMirrored, int many) {
            if (many < 1 || many > 8) {
                throw new IllegalArgumentException();
            }
            if (typed.size() < 3 || kinds.size() >= 6) {
                throw new IllegalStateException();
            }
            Set<Set<Integer>> shapes = new HashSet<>();
            for (int turns = 0; turns < (isTurned ? 4 : 1); turns++) {
                shapes.add(changed(typed, false, turns));
                if (isMirrored) {
                    shapes.add(changed(typed, true, turns));
                }
            }
            for (Set<Set<Integer>> another : kinds) {
                for (Set<Integer> shape : shapes) {
                    if (another.contains(shape)) {
                        throw new UnsupportedOperationException();
                    }
                }
            }
            if (!hangsTogether()) {
                throw new UnsupportedOperationException();
            }
            kinds.add(shapes);
            manies.add(many);
            typed = new TreeSet<>();
            exacts = null;
            return shapes.size();
        }

        Object clear() {
            int were = kinds.size();
            kinds.clear();
            manies.clear();
            typed.clear();
            exacts = null;
            return were;
        }

        /** All places of all kinds, then all ways to take some of them; at last put in order by the document's words. */
        private List<List<Piece>> exactCovers() {
            if (exacts == null) {
                List<Piece> places = new ArrayList<>();
                for (int kind = 0; kind < kinds.size(); kind++) {
                    Set<Set<Integer>> found = new HashSet<>();
                    for (Set<Integer> shape : kinds.get(kind)) {
                        for (int y = 0; y < h; y++) {
                            for (int x = 0; x < w; x++) {
                                TreeSet<Integer> cells = at(shape, x, y);
                                if (cells != null && found.add(cells)) {
                                    places.add(new Piece(kind, cells));
                                }
                            }
                        }
                    }
                }
                exacts = new ArrayList<>();
                cover(places, new HashSet<>(), new ArrayList<>());
                exacts.sort(Model::compareExacts);
            }
            return exacts;
        }

        private TreeSet<Integer> at(Set<Integer> shape, int x, int y) {
            TreeSet<Integer> cells = new TreeSet<>();
            for (int cell : shape) {
                int toX = wrap(x + cell % 100);
                int toY = y + cell / 100;
                if (!is(toX, toY) || !cells.add(8 * toY + toX)) {
                    return null;
                }
            }
            return cells;
        }

        private void cover(List<Piece> places, Set<Integer> covered, List<Piece> taken) {
            int open = -1;
            for (int cell = 63; cell >= 0; cell--) {
                if (is(cell % 8, cell / 8) && !covered.contains(cell)) {
                    open = cell;
                }
            }
            if (open < 0) {
                exacts.add(new ArrayList<>(taken));
                return;
            }
            for (Piece piece : places) {
                boolean isFit = piece.cells.contains(open);
                for (int cell : piece.cells) {
                    isFit = isFit && !covered.contains(cell);
                }
                int used = 0;
                for (Piece other : taken) {
                    used += other.kind == piece.kind ? 1 : 0;
                }
                if (isFit && used < manies.get(piece.kind)) {
                    Set<Integer> more = new HashSet<>(covered);
                    more.addAll(piece.cells);
                    taken.add(piece);
                    cover(places, more, taken);
                    taken.remove(taken.size() - 1);
                }
            }
        }

        private static Piece pieceOf(List<Piece> one, int cell) {
            for (Piece piece : one) {
                if (piece.cells.contains(cell)) {
                    return piece;
                }
            }
            return null;
        }

        private static int compareExacts(List<Piece> a, List<Piece> b) {
            for (int cell = 0; cell < 64; cell++) {
                Piece one = pieceOf(a, cell);
                Piece two = pieceOf(b, cell);
                if (one != null && (one.kind != two.kind || !one.cells.equals(two.cells))) {
                    if (one.kind != two.kind) {
                        return one.kind - two.kind;
                    }
                    Integer[] oneCells = one.cells.toArray(new Integer[0]);
                    Integer[] twoCells = two.cells.toArray(new Integer[0]);
                    for (int i = 0; i < oneCells.length; i++) {
                        if (!oneCells[i].equals(twoCells[i])) {
                            return oneCells[i] - twoCells[i];
                        }
                    }
                }
            }
            return 0;
        }

        private void needSmall(boolean isFlat) {
            if (size() > 24 || (isFlat && isRolled)) {
                throw new UnsupportedOperationException();
            }
        }

        int exactSize() {
            return size() > 24 ? 0 : exactCovers().size();
        }

        Object exact() {
            needSmall(false);
            return exactCovers().size();
        }

        Object kindAt(int index, int x, int y) {
            needSmall(false);
            if (index < 0 || index >= exactCovers().size()) {
                throw new NoSuchElementException();
            }
            if (!is(x, y)) {
                throw new IndexOutOfBoundsException();
            }
            return pieceOf(exactCovers().get(index), 8 * y + x).kind;
        }

        Object unlike() {
            needSmall(true);
            Set<Set<String>> left = new HashSet<>();
            for (List<Piece> one : exactCovers()) {
                left.add(image(one, 0));
            }
            int many = 0;
            for (List<Piece> one : exactCovers()) {
                if (left.contains(image(one, 0))) {
                    many++;
                    for (int motion = 0; motion < 8; motion++) {
                        left.remove(image(one, motion));
                    }
                }
            }
            return many;
        }

        /** A cover as a set of texts, moved; an empty one if the motion does not keep rectangle and board. */
        private Set<String> image(List<Piece> one, int motion) {
            Set<String> moved = new HashSet<>();
            if (motion % 2 == 1 && w != h) {
                return Set.of("none");
            }
            for (int y = 0; y < h; y++) {
                for (int x = 0; x < w; x++) {
                    int to = move(8 * y + x, motion);
                    if (on[y][x] != on[to / 8][to % 8]) {
                        return Set.of("none");
                    }
                }
            }
            for (Piece piece : one) {
                TreeSet<Integer> cells = new TreeSet<>();
                for (int cell : piece.cells) {
                    cells.add(move(cell, motion));
                }
                moved.add(piece.kind + " " + cells);
            }
            return moved;
        }

        private int move(int cell, int motion) {
            int x = cell % 8;
            int y = cell / 8;
            if (motion % 2 == 1) {
                int held = x;
                x = y;
                y = held;
            }
            if ((motion & 2) != 0) {
                x = w - 1 - x;
            }
            if ((motion & 4) != 0) {
                y = h - 1 - y;
            }
            return 8 * y + x;
        }

        private long rookWays(int y, Set<Integer> taken, int many) {
            if (many == 0) {
                return 1;
            }
            if (y >= h) {
                return 0;
            }
            long ways = rookWays(y + 1, taken, many);
            for (int x = 0; x < w; x++) {
                if (on[y][x] && !taken.contains(x)) {
                    taken.add(x);
                    ways += rookWays(y + 1, taken, many - 1);
                    taken.remove(x);
                }
            }
            return ways;
        }

        Object rooks(int many) {
            if (many < 0 || many > 8) {
                throw new IllegalArgumentException();
            }
            return put(rookWays(0, new HashSet<>(), many));
        }

        Object mostRooks() {
            int most = 0;
            for (int many = 0; many <= 8; many++) {
                most = rookWays(0, new HashSet<>(), many) > 0 ? many : most;
            }
            return most;
        }

        Object loops() {
            if (size() > 36 || isRolled) {
                throw new UnsupportedOperationException();
            }
            if (size() < 4) {
                return put(0);
            }
            for (int cell = 0; cell < 64; cell++) {
                if (is(cell % 8, cell / 8)) {
                    return put(paths(cell % 8, cell / 8, cell, new boolean[64], size()) / 2);
                }
            }
            return put(0);
        }

        private long paths(int x, int y, int start, boolean[] seen, int left) {
            int cell = 8 * y + x;
            if (left == 0) {
                return cell == start ? 1 : 0;
            }
            long many = 0;
            seen[cell] = true;
            for (int[] to : around(x, y)) {
                int next = 8 * to[1] + to[0];
                if (is(to[0], to[1]) && (left == 1 ? next == start : !seen[next])) {
                    many += paths(to[0], to[1], start, seen, left - 1);
                }
            }
            seen[cell] = false;
            return many;
        }

        Object checksum() {
            List<Long> items = new ArrayList<>(List.of((long) w, (long) h, isRolled ? 1L : 0L));
            for (int y = 0; y < h; y++) {
                for (int x = 0; x < w; x++) {
                    items.add(on[y][x] ? 1L : 0L);
                }
            }
            for (int cell = 0; cell < 64 && cover != null; cell++) {
                if (is(cell % 8, cell / 8)) {
                    items.add((long) cover.charAt(cell));
                }
            }
            items.add((long) kinds.size());
            for (int i = 0; i < kinds.size(); i++) {
                items.add((long) kinds.get(i).size());
                items.add((long) manies.get(i));
            }
            for (char sign : text.toCharArray()) {
                items.add((long) sign);
            }
            long sum = 7;
            for (long item : items) {
                sum = 31 * sum + item;
            }
            return sum;
        }
    }
}
