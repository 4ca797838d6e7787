import java.io.IOException;
import java.lang.reflect.Constructor;
import java.lang.reflect.Field;
import java.lang.reflect.Method;
import java.lang.reflect.Modifier;
import java.nio.file.Files;
import java.nio.file.Path;
import java.util.ArrayList;
import java.util.HashMap;
import java.util.List;
import java.util.Map;
import java.util.Set;
import java.util.TreeSet;
import java.util.regex.Matcher;
import java.util.regex.Pattern;

/**
 * The class shows the document's face, with its exceptions in their order, and nothing else; the source has its lines
 * word by word, below the headings that the document wants ahead of them. It is run in the project's directory.
 */
public final class FaceTest {

    private static final String[] FACE = {
        "int board(int, int) IllegalArgumentException",
        "int form(char, int) IllegalArgumentException",
        "int cut(int, int) IndexOutOfBoundsException",
        "int fill(int, int) IndexOutOfBoundsException",
        "boolean roll(boolean) UnsupportedOperationException",
        "int cells(char) IllegalArgumentException",
        "boolean has(int, int)",
        "int parts()",
        "int holes()",
        "int covers()",
        "int bySigns() UnsupportedOperationException",
        "int having(int, int, boolean) IndexOutOfBoundsException",
        "char signAt(int) IndexOutOfBoundsException",
        "int draw(long) NoSuchElementException",
        "boolean next() NoSuchElementException",
        "boolean previous() NoSuchElementException",
        "int number() NoSuchElementException",
        "char other(int, int) IndexOutOfBoundsException NoSuchElementException",
        "int flips() NoSuchElementException",
        "int flip(int) NoSuchElementException IndexOutOfBoundsException",
        "int undo() IllegalStateException",
        "int keep() NoSuchElementException",
        "int apart() UnsupportedOperationException NoSuchElementException",
        "int height(int, int) UnsupportedOperationException IndexOutOfBoundsException NoSuchElementException",
        "int cuts() NoSuchElementException",
        "int free()",
        "char role(int, int) IndexOutOfBoundsException",
        "int roles(char) IllegalArgumentException",
        "int pieceCell(int, int) IllegalArgumentException IllegalStateException",
        "int kind(boolean, boolean, int) IllegalArgumentException IllegalStateException UnsupportedOperationException",
        "int clear()",
        "int exact() UnsupportedOperationException",
        "int unlike() UnsupportedOperationException",
        "int kindAt(int, int, int) UnsupportedOperationException NoSuchElementException IndexOutOfBoundsException",
        "int strip(int, int) IllegalArgumentException",
        "int order(int) IllegalArgumentException",
        "int rule(int, int) IllegalArgumentException IndexOutOfBoundsException",
        "int hexagon(int, int, int) IllegalArgumentException",
        "int heaps(int, int, int) IllegalArgumentException",
        "int rooks(int) IllegalArgumentException",
        "int mostRooks()",
        "int loops() UnsupportedOperationException",
        "float share(int, int, boolean) IndexOutOfBoundsException ArithmeticException",
        "double meanPart() ArithmeticException",
        "long checksum()",
        "boolean isSound()",
    };

    private static final Path DOCUMENT = Path.of("../shared/DOC.md");
    private static final Path SOURCE = Path.of("src/main/java/Tilecount.java");
    private static int wrong = 0;

    public static void main(String[] args) throws IOException {
        Class<?> type = Tilecount.class;
        due("public and final", Modifier.isPublic(type.getModifiers()) && Modifier.isFinal(type.getModifiers()));
        due("no package and no other class above it",
            type.getName().equals("Tilecount") && type.getSuperclass() == Object.class
                && type.getInterfaces().length == 0);
        Constructor<?>[] constructors = type.getDeclaredConstructors();
        due("one public constructor without arguments", constructors.length == 1
            && constructors[0].getParameterCount() == 0 && Modifier.isPublic(constructors[0].getModifiers())
            && constructors[0].getExceptionTypes().length == 0);
        Set<String> want = new TreeSet<>(Set.of(FACE));
        Set<String> names = new TreeSet<>();
        for (String line : FACE) {
            names.add(line.substring(line.indexOf(' ') + 1, line.indexOf('(')));
        }
        for (Method method : type.getDeclaredMethods()) {
            if (!Modifier.isPrivate(method.getModifiers())) {
                due("face: " + lineOf(method), want.remove(lineOf(method)));
                due("public, not static: " + method, method.getModifiers() == Modifier.PUBLIC);
            } else {
                due("no private method of the name " + method, !names.contains(method.getName()));
            }
        }
        due("missing: " + want, want.isEmpty());
        for (Field field : type.getDeclaredFields()) {
            due("private: " + field, Modifier.isPrivate(field.getModifiers()));
        }
        inside(type, names);
        holdToTheDocument();
        System.out.println(FACE.length + " calls of the face, " + wrong + " wrong");
        if (wrong > 0) {
            System.exit(1);
        }
    }

    private static void inside(Class<?> type, Set<String> names) {
        for (Class<?> inner : type.getDeclaredClasses()) {
            due("private and static: " + inner, Modifier.isPrivate(inner.getModifiers())
                && Modifier.isStatic(inner.getModifiers()));
            for (Method method : inner.getDeclaredMethods()) {
                due("private: " + method, Modifier.isPrivate(method.getModifiers()));
                due("no face name: " + method, !names.contains(method.getName()));
                due("at most seven parameters: " + method, method.getParameterCount() <= 7);
            }
            int fields = 0;
            for (Field field : inner.getDeclaredFields()) {
                boolean isStatic = Modifier.isStatic(field.getModifiers());
                due("private: " + field, Modifier.isPrivate(field.getModifiers()));
                due("final, if static: " + field, !isStatic || Modifier.isFinal(field.getModifiers()));
                fields += isStatic ? 0 : 1;
            }
            due("at most twenty fields in " + inner, fields <= 20);
        }
        due("at most twelve classes", type.getDeclaredClasses().length <= 11);
    }

    private static void holdToTheDocument() throws IOException {
        if (!Files.exists(DOCUMENT)) {
            System.out.println(DOCUMENT + " is not here; the source is not held to it");
            return;
        }
        String document = oneLine(Files.readString(DOCUMENT));
        String source = oneLine(Files.readString(SOURCE));
        int from = document.indexOf("## The public face");
        int to = document.indexOf("## Terms");
        List<String> lines = found("(public [^;{]*?\\([^;{]*?);", document.substring(from, to));
        due("lines in the document's face: " + lines.size(), lines.size() == FACE.length + 1);
        for (String line : lines) {
            due("in the source: " + line, source.contains(line + " {"));
        }
        Map<String, List<String>> below = callsBelowHeadings();
        Matcher heading = Pattern.compile("Ahead of the calls (.*?) the interface says: (.*?)\\.").matcher(document);
        int headings = 0;
        while (heading.find()) {
            headings++;
            List<String> calls = found("`(\\w+)`", heading.group(1));
            List<String> own = below.get(heading.group(2));
            due("below the heading " + heading.group(2) + ": " + calls + ", but " + own, calls.equals(own));
        }
        due("headings: " + headings, headings == 8);
    }

    /** The public calls of the source by the comment of one line that they stand below. */
    private static Map<String, List<String>> callsBelowHeadings() throws IOException {
        Map<String, List<String>> below = new HashMap<>();
        List<String> calls = new ArrayList<>();
        for (String line : Files.readAllLines(SOURCE)) {
            if (line.matches(" {4}(//|/\\*).*")) {
                calls = new ArrayList<>();
                below.put(line.replaceAll("^[^a-z]+|[^a-z]+$", ""), calls);
            }
            calls.addAll(found("^ {4}public \\w+ (\\w+)\\(", line));
        }
        return below;
    }

    private static String oneLine(String text) {
        return text.replaceAll("\\s+", " ");
    }

    private static List<String> found(String pattern, String text) {
        List<String> groups = new ArrayList<>();
        Matcher matcher = Pattern.compile(pattern).matcher(text);
        while (matcher.find()) {
            groups.add(matcher.group(1));
        }
        return groups;
    }

    private static String lineOf(Method method) {
        StringBuilder line = new StringBuilder(method.getReturnType().getSimpleName() + " " + method.getName() + "(");
        Class<?>[] given = method.getParameterTypes();
        for (int i = 0; i < given.length; i++) {
            line.append(i > 0 ? ", " : "").append(given[i].getSimpleName());
        }
        line.append(")");
        for (Class<?> thrown : method.getExceptionTypes()) {
            line.append(" ").append(thrown.getSimpleName());
        }
        return line.toString();
    }

    private static void due(String what, boolean is) {
        if (!is) {
            wrong++;
            System.out.println("not so: " + what);
        }
    }
}
