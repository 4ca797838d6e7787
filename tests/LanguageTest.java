import java.lang.reflect.Array;
import java.lang.reflect.Field;
import java.lang.reflect.Modifier;
import java.nio.file.Files;
import java.nio.file.Path;
import java.util.IdentityHashMap;
import java.util.List;
import java.util.Map;
import java.util.regex.Matcher;
import java.util.regex.Pattern;

/**
 * What can be seen of LANGUAGE.md from outside: words that the source must not have, the library that it may use, the
 * length of methods, and how much room objects and calls take. It is run in the project's directory.
 */
public final class LanguageTest {

    private static final Path SOURCE = Path.of("src/main/java/Tilecount.java");
    private static final List<String> REFUSED = List.of("catch", "try", "finally", "synchronized", "assert",
        "instanceof", "->", "::", "import java.util.*", "static {", "equals", "hashCode", "toString", "String ",
        "numberOfTrailingZeros", "MIN_VALUE", "MAX_VALUE", ".SIZE", "while", "Object", "System.out", "nanoTime",
        "random", "Thread", "Exact(", "volatile", "protected", "@Override", "enum ", "interface ", "record ");
    private static final List<String> ALLOWED = List.of("Arrays.fill", "System.arraycopy", "Math.max", "Math.min",
        "Math.abs", "Math.floorMod", "Math.floorDiv", "Long.bitCount", "Integer.bitCount");
    private static int wrong = 0;

    public static void main(String[] args) throws Exception {
        String text = Files.readString(SOURCE);
        String code = text.replaceAll("(?s)/\\*.*?\\*/", "").replaceAll("//[^\n]*", "").replaceAll("\"[^\"\n]*\"", "\"\"");
        for (String word : REFUSED) {
            boolean isName = word.equals("Exact(");
            due("no " + word, isName ? !Pattern.compile("[a-z]Exact\\(").matcher(code).find() : !hasWord(code, word));
        }
        due("signs of ASCII alone", text.chars().allMatch(sign -> sign < 128));
        Matcher library = Pattern.compile("\\b(Math|Long|Integer|Arrays|System|Character|String)\\.(\\w+)").matcher(code);
        while (library.find()) {
            due("library: " + library.group(), ALLOWED.contains(library.group()));
        }
        due("no joining of texts by +", !Pattern.compile("\"\"\\s*\\+|\\+\\s*\"\"").matcher(code).find());
        methodsAreShort(code);
        throwsStandInTheFace(code);
        objectsAreSmall();
        callsMakeNothing();
        System.out.println("language: " + wrong + " wrong");
        if (wrong > 0) {
            System.exit(1);
        }
    }

    private static boolean hasWord(String code, String word) {
        String before = Character.isLetter(word.charAt(0)) ? "\\b" : "";
        String after = Character.isLetter(word.charAt(word.length() - 1)) ? "\\b" : "";
        return Pattern.compile(before + Pattern.quote(word) + after).matcher(code).find();
    }

    private static void methodsAreShort(String code) {
        int since = 0;
        String[] lines = code.split("\n");
        for (int i = 0; i < lines.length; i++) {
            if (lines[i].matches(" {4}( {4})?(public|private) .*[({]$|.*\\) \\{$") && lines[i].matches(" {4,8}\\S.*")) {
                since = i;
            }
            if (lines[i].matches(" {4}( {4})?}") && i - since > 60 && !lines[i].equals("    }")) {
                due("short: " + lines[since], false);
            }
        }
    }

    /** Only methods of the face throw, and none does so twice with one exception's own text missing. */
    private static void throwsStandInTheFace(String code) {
        boolean isPublic = false;
        boolean isInside = false;
        for (String line : code.split("\n")) {
            isInside = isInside || line.startsWith("    private static final class ");
            if (line.matches(" {4}(public|private) .*")) {
                isPublic = line.startsWith("    public ");
            }
            if (line.contains("throw new ")) {
                due("thrown by the face: " + line.trim(), isPublic && !isInside);
            }
        }
    }

    private static void objectsAreSmall() throws Exception {
        long[] counts = new long[2];
        count(new Tilecount(), counts, new IdentityHashMap<>());
        due("fewer than 100 objects and arrays in an object, but " + counts[0], counts[0] < 100);
        due("fewer than 20,000 fields and elements in an object, but " + counts[1], counts[1] < 20000);
    }

    private static void count(Object start, long[] counts, Map<Object, Boolean> seen) throws Exception {
        if (start == null || seen.put(start, true) != null) {
            return;
        }
        counts[0]++;
        if (start.getClass().isArray()) {
            counts[1] += Array.getLength(start);
            return;
        }
        for (Field field : start.getClass().getDeclaredFields()) {
            if (!Modifier.isStatic(field.getModifiers())) {
                counts[1]++;
                field.setAccessible(true);
                if (!field.getType().isPrimitive()) {
                    count(field.get(start), counts, seen);
                }
            }
        }
    }

    /** A call makes no object, measured by what the thread has asked for over many calls. */
    private static void callsMakeNothing() {
        com.sun.management.ThreadMXBean bean =
            (com.sun.management.ThreadMXBean) java.lang.management.ManagementFactory.getThreadMXBean();
        Tilecount t = new Tilecount();
        manyCalls(t, 3);
        long before = bean.getThreadAllocatedBytes(Thread.currentThread().getId());
        manyCalls(t, 20);
        long made = bean.getThreadAllocatedBytes(Thread.currentThread().getId()) - before;
        due("calls make no objects, but " + made + " bytes", made < 20000);
    }

    private static void manyCalls(Tilecount t, int times) {
        for (int i = 0; i < times; i++) {
            t.clear();
            t.board(6, 4);
            t.pieceCell(0, 0);
            t.pieceCell(1, 0);
            t.pieceCell(0, 1);
            t.kind(true, true, 8);
            t.exact();
            t.unlike();
            t.kindAt(0, 0, 0);
            t.draw(i);
            t.keep();
            t.next();
            t.previous();
            t.flip(0);
            t.undo();
            t.apart();
            t.height(1, 1);
            t.covers();
            t.bySigns();
            t.having(0, 0, true);
            t.roles('f');
            t.strip(6, 300);
            t.rule(6, 4);
            t.hexagon(8, 8, 8);
            t.heaps(8, 8, 8);
            t.rooks(3);
            t.mostRooks();
            t.loops();
            t.share(0, 0, true);
            t.meanPart();
            t.checksum();
            t.isSound();
        }
    }

    private static void due(String what, boolean is) {
        if (!is) {
            wrong++;
            System.out.println("not so: " + what);
        }
    }
}
