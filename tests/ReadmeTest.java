import java.io.ByteArrayOutputStream;
import java.io.PrintStream;
import java.lang.reflect.Method;
import java.lang.reflect.Modifier;
import java.net.URLClassLoader;
import java.nio.charset.StandardCharsets;
import java.nio.file.Files;
import java.nio.file.Path;
import java.util.List;
import java.util.regex.Matcher;
import java.util.regex.Pattern;
import java.util.stream.Stream;

/**
 * What README.md says of the use of the class and of its tests: the example compiles and prints what is said there, and
 * each call of the face and each test is named. It is run in the project's directory.
 */
public final class ReadmeTest {

    private static final Path PAGE = Path.of("README.md");
    private static final Path SOURCE = Path.of("src/main/java/Tilecount.java");
    private static int wrong = 0;

    public static void main(String[] args) throws Exception {
        String page = Files.readString(PAGE).replace("\r\n", "\n");
        for (Method call : Tilecount.class.getDeclaredMethods()) {
            if (Modifier.isPublic(call.getModifiers())) {
                due("named: " + call.getName(), page.contains("`" + call.getName() + "`"), true);
            }
        }
        for (String test : tests()) {
            due("named: " + test, page.contains("| `" + test + "` |"), true);
        }
        Path room = Files.createTempDirectory("readme");
        try {
            due("the example", printed(room, block(page, "java")), block(page, "text"));
        } finally {
            Compiled.remove(room);
        }
        System.out.println("the README: " + wrong + " wrong");
        if (wrong > 0) {
            System.exit(1);
        }
    }

    private static List<String> tests() throws Exception {
        try (Stream<Path> all = Files.list(Path.of("tests"))) {
            return all.map(one -> one.getFileName().toString()).filter(name -> name.endsWith(".java"))
                .map(name -> name.substring(0, name.length() - ".java".length())).sorted().toList();
        }
    }

    private static String block(String page, String language) {
        Matcher block = Pattern.compile("(?s)```" + language + "\n(.*?)```").matcher(page);
        return block.find() ? block.group(1) : "no block of " + language;
    }

    private static String printed(Path room, String program) throws Exception {
        Path example = room.resolve("Example.java");
        Files.writeString(example, program);
        if (!Compiled.into(room, SOURCE, example)) {
            return "it does not compile";
        }
        ByteArrayOutputStream bytes = new ByteArrayOutputStream();
        PrintStream before = System.out;
        System.setOut(new PrintStream(bytes, true, StandardCharsets.UTF_8));
        try (URLClassLoader loader = Compiled.loader(room)) {
            loader.loadClass("Example").getMethod("main", String[].class).invoke(null, (Object) new String[0]);
        } finally {
            System.setOut(before);
        }
        return bytes.toString(StandardCharsets.UTF_8).replace(System.lineSeparator(), "\n");
    }

    private static void due(String what, Object got, Object want) {
        if (!want.equals(got)) {
            wrong++;
            System.out.println(what + ": is " + got + ", due is " + want);
        }
    }
}
