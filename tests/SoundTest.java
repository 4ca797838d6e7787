import java.lang.reflect.Method;
import java.net.URLClassLoader;
import java.nio.file.Files;
import java.nio.file.Path;
import java.util.ArrayList;
import java.util.List;

/**
 * Whether isSound() looks at all that promise 47 names. It answers true whenever the class is right, so that no run of
 * calls can tell it from one that looks at nothing: here copies of the class are made, each with one fault in what a
 * clause of the promise is about, and isSound() of each copy has to answer false. It is run in the project's directory.
 */
public final class SoundTest {

    private static final Path SOURCE = Path.of("src/main/java/Tilecount.java");
    private static final List<Fault> FAULTS = new ArrayList<>();
    private static int wrong = 0;

    private static final class Fault {
        private final String clause;
        private final String state;
        private final String right;
        private final String faulty;

        private Fault(String clause, String state, String right, String faulty) {
            this.clause = clause;
            this.state = state;
            this.right = right;
            this.faulty = faulty;
        }
    }

    public static void main(String[] args) throws Exception {
        countsAndCovers();
        piecesAndCells();
        stripsAndHexagons();
        String source = Files.readString(SOURCE).replace("\r\n", "\n");
        long placed = FAULTS.stream().filter(fault -> source.contains(fault.right)).count();
        if (placed == 0) {
            System.out.println("another source: none of the faults has a place in it");
            return;
        }
        for (String state : SoundProbe.STATES) {
            due("isSound() without a fault: " + state, SoundProbe.isSound(state), true);
        }
        Path room = Files.createTempDirectory("sound");
        try {
            for (int i = 0; i < FAULTS.size(); i++) {
                tryFault(source, FAULTS.get(i), Files.createDirectory(room.resolve("fault" + i)));
            }
        } finally {
            Compiled.remove(room);
        }
        System.out.println(FAULTS.size() + " faults for isSound() to find, " + wrong + " wrong");
        if (wrong > 0) {
            System.exit(1);
        }
    }

    private static void fault(String clause, String state, String right, String faulty) {
        FAULTS.add(new Fault(clause, state, right, faulty));
    }

    private static void countsAndCovers() {
        fault("covers counted both ways", "2 by 2",
            "long upright = x % 2 == 0 ? 1 : prime - 1;",
            "long upright = 1;");
        fault("the number of the cover makes it again", "a cover of 4 by 4",
            "for (int way = 0; way < taken; way++) {",
            "for (int way = 0; way <= taken; way++) {");
        fault("and the next one has the number 1 more", "the first cover of 2 by 2",
            "long left = number;\n            int state = 0;",
            "long left = Math.max(number - 1, 0);\n            int state = 0;");
        fault("each flip leads to a cover 1 apart", "the first cover of 2 by 2",
            "private static final int FLIP = 4;",
            "private static final int FLIP = 2;");
        fault("each flip, the last one too", "the first cover of 4 by 4",
            "return right ^ acrossPair(square % Board.SIDE, square / Board.SIDE);",
            "return square > 17 ? right : right ^ acrossPair(square % Board.SIDE, square / Board.SIDE);");
    }

    private static void piecesAndCells() {
        fault("for each cell the covers with its pieces are all: down", "1 by 2",
            "having[2 * cell + 1] += many;",
            "having[2 * cell + 1] += 2 * many;");
        fault("for each cell the covers with its pieces are all: across", "2 by 1",
            "having[2 * (way == RIGHT ? cell : round)] += many;",
            "having[2 * (way == RIGHT ? cell : round)] += 0;");
        fault("for each cell the covers with its pieces are all: round", "4 by 1, rolled",
            "having[2 * (way == RIGHT ? cell : round)] += many;",
            "having[2 * (way == RIGHT ? cell : round)] += way == RIGHT ? many : 0;");
        fault("for each cell, the last one too", "4 by 4",
            "having[2 * cell + 1] += many;",
            "having[2 * cell + 1] += x == 3 && y == 2 ? 0 : many;");
        fault("cells that stay free against their roles", "3 by 1",
            "canBeFree = alone;",
            "canBeFree = 0;");
        fault("the exact covers against their numbers", "3 by 3 and a kind",
            "if (left < many) {\n                        chosen[depth] = i;",
            "if (left <= many) {\n                        chosen[depth] = i;");
        fault("the exact covers against their numbers: of 24 cells", "8 by 3 and a kind",
            "if (left < many) {\n                        chosen[depth] = i;",
            "if (left <= many) {\n                        chosen[depth] = i;");
        fault("the exact covers against their numbers: a single one", "3 by 1 and a kind",
            "return state < 0 ? -1 : sum;",
            "return state < 0 ? -1 : sum + 1;");
    }

    private static void stripsAndHexagons() {
        fault("the rule of the width 1", "empty", "            0, 1,\n", "            0, 2,\n");
        fault("the rule of the width 2", "empty", "            1, 1,\n", "            1, 2,\n");
        fault("the rule of the width 3", "empty", "            0, 4, 0, -1,\n", "            0, 4, 0, 1,\n");
        fault("the rule of the width 4", "empty", "            1, 5, 1, -1,\n", "            1, 5, 1, 1,\n");
        fault("the rules up to the length 30", "empty",
            "long carry = 0;\n            for (int limb = 0;",
            "long carry = width == 4 && length == 30 ? 1 : 0;\n            for (int limb = 0;");
        fault("hexagons up to 3", "empty",
            "into.put(thirdDigit());",
            "into.put(thirdDigit() + (a == 3 && b == 3 && c == 3 ? 1 : 0));");
        fault("boxes up to 3", "empty",
            "put(1);\n            for (int i = 1; i <= a; i++) {",
            "put(a == 3 && b == 3 && c == 3 ? 2 : 1);\n            for (int i = 1; i <= a; i++) {");
        fault("hexagons and boxes from 1", "empty",
            "put(1);\n            for (int i = 1; i <= a; i++) {",
            "put(a == 1 && b == 1 && c == 1 ? 2 : 1);\n            for (int i = 1; i <= a; i++) {");
    }

    private static void tryFault(String source, Fault fault, Path room) throws Exception {
        int at = source.indexOf(fault.right);
        if (at < 0 || source.indexOf(fault.right, at + 1) >= 0) {
            due("one place for the fault: " + fault.clause, at < 0 ? "none" : "more", "one");
            return;
        }
        Path copy = room.resolve("Tilecount.java");
        Files.writeString(copy, source.replace(fault.right, fault.faulty));
        if (!Compiled.into(room, copy)) {
            due("compiled: " + fault.clause, false, true);
            return;
        }
        due("isSound() with a fault: " + fault.clause, isSoundIn(room, fault.state), false);
    }

    /** The probe is loaded anew beside the copy, so that it is the copy that it calls. */
    private static Object isSoundIn(Path room, String state) throws Exception {
        try (URLClassLoader loader = Compiled.loader(room)) {
            Method probe = loader.loadClass("SoundProbe").getDeclaredMethod("isSound", String.class);
            probe.setAccessible(true);
            return probe.invoke(null, state);
        }
    }

    private static void due(String what, Object got, Object want) {
        if (!want.equals(got)) {
            wrong++;
            System.out.println(what + ": answered " + got + ", due is " + want);
        }
    }
}

/** Objects in the states that the faults show in. */
final class SoundProbe {

    static final List<String> STATES = List.of("empty", "2 by 2", "1 by 2", "2 by 1", "3 by 1", "4 by 4",
        "4 by 1, rolled", "the first cover of 2 by 2", "the first cover of 4 by 4", "a cover of 4 by 4",
        "3 by 3 and a kind", "8 by 3 and a kind", "3 by 1 and a kind");

    private SoundProbe() {
    }

    static boolean isSound(String state) {
        Tilecount tiles = new Tilecount();
        int by = state.indexOf(" by ");
        if (by > 0) {
            tiles.board(state.charAt(by - 1) - '0', state.charAt(by + 4) - '0');
        }
        if (state.endsWith("rolled")) {
            tiles.roll(true);
        }
        if (state.contains("cover")) {
            tiles.draw(state.contains("first") ? 0 : 5);
        }
        if (state.endsWith("kind")) {
            for (int x = 0; x < 3; x++) {
                tiles.pieceCell(x, 0);
            }
            tiles.kind(true, false, 8);
        }
        return tiles.isSound();
    }
}
