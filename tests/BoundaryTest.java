import java.lang.reflect.InvocationTargetException;
import java.lang.reflect.Method;
import java.lang.reflect.Modifier;
import java.nio.file.Files;
import java.nio.file.Path;
import java.util.ArrayList;
import java.util.Arrays;
import java.util.Comparator;
import java.util.LinkedHashSet;
import java.util.List;
import java.util.Set;

/**
 * Runs the tests of boundary/, one method a boundary case that a sentence of the document names, and holds them to the
 * document: each sentence stands there as it is quoted, and each sentence there is quoted or told to name no boundary.
 * It is run in the project's directory.
 */
public final class BoundaryTest {

    private static final Path DOCUMENT = Path.of("../shared/DOC.md");
    private static final Class<?>[] TESTS = {TermsBoundary.class, BoardBoundary.class, CountBoundary.class,
        CoverBoundary.class, FreeBoundary.class, PieceBoundary.class, StripBoundary.class, FigureBoundary.class};

    /** Answers that the sentence ahead of them tells in full. */
    private static final Set<String> SHORT = Set.of("Returns how many.", "Returns the order.");
    /** Sentences without a boundary case. */
    private static final Set<String> PLAIN = Set.of(
        "0 The class drives whole numbers without an end, sorted maps, sets of bits and queues of the language's own library.",
        "0 Part 1, boards.", "0 Part 2, covers.", "0 Part 3, cells that stay free.", "0 Part 4, pieces that are typed.",
        "0 Part 5, strips.", "0 Part 6, hexagons.", "0 The text.", "0 Exceptions.",
        "0 what later calls answer is free.");

    public static void main(String[] args) throws Exception {
        Set<String> quoted = new LinkedHashSet<>();
        int tests = 0;
        for (Class<?> type : TESTS) {
            Method[] methods = type.getDeclaredMethods();
            Arrays.sort(methods, Comparator.comparing(Method::getName));
            for (Method method : methods) {
                Says says = method.getAnnotation(Says.class);
                if (says != null) {
                    tests++;
                    run(type, method);
                    Arrays.stream(says.is()).forEach(sentence -> quoted.add(says.at() + " " + sentence));
                } else if (!Modifier.isPrivate(method.getModifiers())) {
                    Checks.begin(type.getSimpleName() + "." + method.getName());
                    Checks.fail("it says no sentence");
                }
            }
        }
        Checks.begin("the document");
        holdToTheDocument(quoted);
        System.out.println(tests + " tests of " + quoted.size() + " sentences, " + Checks.made() + " checks, "
            + Checks.wrong() + " wrong");
        if (Checks.wrong() > 0) {
            System.exit(1);
        }
    }

    private static void run(Class<?> type, Method method) throws IllegalAccessException {
        Checks.begin(type.getSimpleName() + "." + method.getName());
        int before = Checks.made();
        try {
            method.invoke(null);
        } catch (InvocationTargetException e) {
            Checks.fail("it threw " + e.getCause() + " at " + Arrays.asList(e.getCause().getStackTrace()).subList(0, 4));
        }
        if (Checks.made() == before) {
            Checks.fail("it checks nothing");
        }
    }

    private static void holdToTheDocument(Set<String> quoted) throws Exception {
        if (!Files.exists(DOCUMENT)) {
            System.out.println(DOCUMENT + " is not here; the sentences are not held to it");
            return;
        }
        Set<String> sentences = sentences(Files.readString(DOCUMENT));
        for (String sentence : quoted) {
            if (!sentences.contains(sentence)) {
                Checks.fail("does not say: " + sentence);
            }
        }
        for (String sentence : sentences) {
            boolean isShort = SHORT.contains(sentence.substring(sentence.indexOf(' ') + 1));
            if (!quoted.contains(sentence) && !PLAIN.contains(sentence) && !isShort) {
                Checks.fail("has a sentence without a test: " + sentence);
            }
        }
    }

    /** The sentences of the document behind the number of their promise, 0 for those ahead of all promises. */
    private static Set<String> sentences(String document) {
        Set<String> found = new LinkedHashSet<>();
        for (String section : document.split("(?m)^## ")) {
            String heading = section.split("\n", 2)[0];
            String body = section.substring(heading.length());
            if (heading.startsWith("Promise ")) {
                String number = heading.substring("Promise ".length(), heading.indexOf(':'));
                paragraphs(body).forEach(paragraph -> found.add(number + " " + bare(paragraph)));
            } else if (heading.equals("Terms")) {
                paragraphs(body).forEach(paragraph -> clauses(paragraph).forEach(clause -> found.add("0 " + clause)));
            } else if (heading.equals("What it is")) {
                clauses(paragraphs(body).get(1)).forEach(clause -> found.add("0 " + clause));
            }
        }
        return found;
    }

    private static List<String> paragraphs(String body) {
        List<String> paragraphs = new ArrayList<>();
        for (String paragraph : body.split("\n\\s*\n|\n(?=- )")) {
            String line = paragraph.strip().replaceAll("\\s+", " ");
            if (!line.isEmpty() && !line.startsWith("Ahead of the calls")) {
                paragraphs.add(line);
            }
        }
        return paragraphs;
    }

    private static List<String> clauses(String paragraph) {
        return List.of(paragraph.split("(?<=[.;:]) "));
    }

    /** A paragraph without the signature or the sign of a list ahead of it. */
    private static String bare(String paragraph) {
        return paragraph.replaceFirst("^`[^`]*\\(.*?\\)[^`]*`: ", "").replaceFirst("^- ", "");
    }
}
