import java.io.File;
import java.io.IOException;
import java.net.URL;
import java.net.URLClassLoader;
import java.nio.file.Files;
import java.nio.file.Path;
import java.util.ArrayList;
import java.util.Arrays;
import java.util.Comparator;
import java.util.List;
import java.util.stream.Stream;
import javax.tools.JavaCompiler;
import javax.tools.ToolProvider;

/** Sources compiled while a test runs, in a room of their own. */
final class Compiled {

    private Compiled() {
    }

    /** Compiles sources into a room, and tells whether they do compile. */
    static boolean into(Path room, Path... sources) {
        JavaCompiler compiler = ToolProvider.getSystemJavaCompiler();
        List<String> given = new ArrayList<>(List.of("-encoding", "UTF-8", "-d", room.toString()));
        Arrays.stream(sources).forEach(source -> given.add(source.toString()));
        return compiler != null && compiler.run(null, null, null, given.toArray(new String[0])) == 0;
    }

    /** Loads the classes of a room, and all others anew beside them, so that it is the room's that they call. */
    static URLClassLoader loader(Path room) throws IOException {
        List<URL> places = new ArrayList<>();
        places.add(room.toUri().toURL());
        for (String place : System.getProperty("java.class.path").split(File.pathSeparator)) {
            places.add(Path.of(place).toUri().toURL());
        }
        return new URLClassLoader(places.toArray(new URL[0]), ClassLoader.getPlatformClassLoader());
    }

    static void remove(Path room) throws IOException {
        try (Stream<Path> all = Files.walk(room)) {
            for (Path one : all.sorted(Comparator.reverseOrder()).toList()) {
                Files.delete(one);
            }
        }
    }
}
