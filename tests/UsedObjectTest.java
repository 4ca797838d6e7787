import java.util.ArrayList;
import java.util.List;
import java.util.Random;

/**
 * An object that has seen other boards and other kinds answers as a new one does that is brought to the same board and
 * kinds, so that nothing is left over from what it counted ahead. Boards go from large to small and back, by chance
 * (always the same ones). An argument: how many objects.
 */
public final class UsedObjectTest {

    /** The 512 calls that an object is good for, less those of one more board and all that is asked of it. */
    private static final int ENOUGH_CALLS = 360;
    private static final int[][] SHAPES = {
        {0, 0, 1, 0, 2, 0}, {0, 0, 1, 0, 1, 1}, {0, 0, 1, 0, 2, 0, 0, 1}, {0, 0, 1, 0, 2, 0, 1, 1},
        {0, 0, 1, 0, 2, 0, 2, 1, 2, 2}
    };
    private static int checks = 0;
    private static int wrong = 0;

    private final long seed;
    private final Random chance;
    private final Tilecount used = new Tilecount();
    private final List<Integer> kinds = new ArrayList<>();
    private Tilecount fresh;
    private int calls = 0;
    private int width;
    private int height;

    private UsedObjectTest(long seed) {
        this.seed = seed;
        chance = new Random(seed * 104729);
    }

    public static void main(String[] args) {
        long objects = args.length > 0 ? Long.parseLong(args[0]) : 400;
        for (long seed = 1; seed <= objects; seed++) {
            UsedObjectTest test = new UsedObjectTest(seed);
            while (test.calls < ENOUGH_CALLS) {
                test.bring();
                test.askAll();
            }
        }
        System.out.println(objects + " used objects, " + checks + " checks, " + wrong + " wrong");
        if (wrong > 0) {
            System.exit(1);
        }
    }

    private interface Answer {
        Object of(Tilecount tiles) throws Exception;
    }

    /** Tells both objects a board, and now and then other kinds. */
    private void bring() {
        fresh = new Tilecount();
        boolean isWide = chance.nextInt(3) == 0;
        width = 1 + chance.nextInt(isWide ? 8 : 6);
        height = 1 + chance.nextInt(isWide ? 8 : 4);
        same("board " + width + " " + height, tiles -> tiles.board(width, height));
        int cuts = chance.nextInt(3) == 0 ? chance.nextInt(8) : 0;
        for (int i = 0; i < cuts; i++) {
            int x = chance.nextInt(width);
            int y = chance.nextInt(height);
            same("cut " + x + " " + y, tiles -> tiles.cut(x, y));
        }
        if (chance.nextInt(3) == 0) {
            same("roll", tiles -> tiles.roll(true));
        }
        if (chance.nextInt(3) == 0) {
            used.clear();
            kinds.clear();
        } else {
            kinds.forEach(kind -> make(kind, fresh));
        }
        int kind = chance.nextInt(SHAPES.length);
        if (chance.nextBoolean() && !kinds.contains(kind)) {
            make(kind, fresh);
            make(kind, used);
            kinds.add(kind);
        }
    }

    private void make(int kind, Tilecount tiles) {
        for (int i = 0; i < SHAPES[kind].length; i += 2) {
            tiles.pieceCell(SHAPES[kind][i], SHAPES[kind][i + 1]);
        }
        tiles.kind(true, kind % 2 == 0, 8 - kind % 3);
        calls += tiles == used ? SHAPES[kind].length / 2 + 1 : 0;
    }

    /** Asks some things, in this order or the other way round, so that each is counted ahead of each other one. */
    private void askAll() {
        List<Runnable> questions = List.of(this::askExact, this::askCounts, this::askFree, this::askCover,
            this::askRooksAndLoops);
        boolean isForward = chance.nextBoolean();
        for (int i = 0; i < questions.size(); i++) {
            if (chance.nextInt(3) > 0) {
                questions.get(isForward ? i : questions.size() - 1 - i).run();
            }
        }
        if (chance.nextBoolean()) {
            same("isSound", Tilecount::isSound);
        }
        same("covers", tiles -> text(tiles, tiles.covers()));
        same("checksum", Tilecount::checksum);
    }

    private void askExact() {
        if (chance.nextBoolean()) {
            same("unlike", Tilecount::unlike);
        }
        same("exact", Tilecount::exact);
        for (int i = 0; i < 4; i++) {
            int index = chance.nextInt(1 << chance.nextInt(8)) - (i == 0 ? 1 : 0);
            int x = chance.nextInt(width);
            int y = chance.nextInt(height);
            same("kindAt " + index + " " + x + " " + y, tiles -> tiles.kindAt(index, x, y));
        }
        same("unlike", Tilecount::unlike);
    }

    private void askCounts() {
        same("covers", tiles -> text(tiles, tiles.covers()));
        same("bySigns", tiles -> text(tiles, tiles.bySigns()));
        for (int i = 0; i < 3; i++) {
            int x = chance.nextInt(width);
            int y = chance.nextInt(height);
            boolean isAcross = chance.nextBoolean();
            same("having " + x + " " + y + isAcross, tiles -> text(tiles, tiles.having(x, y, isAcross)));
            same("share " + x + " " + y + isAcross, tiles -> tiles.share(x, y, isAcross));
        }
        same("meanPart", Tilecount::meanPart);
        same("holes", Tilecount::holes);
    }

    private void askFree() {
        same("free", Tilecount::free);
        for (char role : "fn-".toCharArray()) {
            same("roles " + role, tiles -> tiles.roles(role));
        }
        int x = chance.nextInt(width);
        int y = chance.nextInt(height);
        same("role " + x + " " + y, tiles -> tiles.role(x, y));
    }

    private void askCover() {
        same("undo", Tilecount::undo);
        long number = chance.nextLong();
        same("draw " + number, tiles -> tiles.draw(number));
        same("keep", Tilecount::keep);
        same("next", Tilecount::next);
        same("number", tiles -> text(tiles, tiles.number()));
        same("apart", Tilecount::apart);
        int x = chance.nextInt(width + 1);
        int y = chance.nextInt(height + 1);
        same("height " + x + " " + y, tiles -> tiles.height(x, y));
        same("flip", tiles -> tiles.flip(1));
        same("previous", Tilecount::previous);
        same("undo", Tilecount::undo);
        same("flips", Tilecount::flips);
        same("cuts", Tilecount::cuts);
    }

    private void askRooksAndLoops() {
        int rooks = chance.nextInt(9);
        same("rooks " + rooks, tiles -> text(tiles, tiles.rooks(rooks)));
        same("mostRooks", Tilecount::mostRooks);
        same("loops", tiles -> text(tiles, tiles.loops()));
    }

    private static String text(Tilecount tiles, int signs) {
        StringBuilder text = new StringBuilder();
        for (int place = 0; place < signs; place++) {
            text.append(tiles.signAt(place));
        }
        return text.toString();
    }

    private void same(String call, Answer answer) {
        checks++;
        String got = told(answer, used);
        String want = told(answer, fresh);
        calls += 1 + (got.matches("\\d+") ? got.length() : 0);
        if (!got.equals(want)) {
            wrong++;
            System.out.println("object " + seed + ", " + call + ": answered " + got + ", a new one " + want);
        }
    }

    private static String told(Answer answer, Tilecount tiles) {
        try {
            return String.valueOf(answer.of(tiles));
        } catch (Exception e) {
            return e.getClass().getSimpleName();
        }
    }
}
