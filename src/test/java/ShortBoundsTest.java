import java.io.File;
import java.io.IOException;
import java.net.URL;
import java.net.URLClassLoader;
import java.nio.file.Files;
import java.nio.file.Path;
import java.util.ArrayList;
import java.util.List;
import javax.tools.JavaCompiler;
import javax.tools.ToolProvider;

/**
 * Promises 22 to 30, where the rounds of a run or the passes of an order come to an end. No domain is known that
 * gets to the document's 60 rounds or 30 passes without a rest or a cycle: so the class and the reference are
 * compiled once more with fewer of them, and must still answer alike.
 */
public final class ShortBoundsTest {
    private static final int[][] BOUNDS = {{1, 1}, {2, 2}, {4, 3}, {6, 2}};

    public static void main(String[] args) throws Exception {
        for (int[] bounds : BOUNDS) {
            Path place = Files.createTempDirectory("short");
            // Not at the end of this loop, as a failing test ends the machine.
            Runtime.getRuntime().addShutdownHook(new Thread(() -> delete(place.toFile())));
            play(place, bounds[0], bounds[1]);
        }
    }

    private static void play(Path place, int rounds, int passes) throws Exception {
        List<String> files = new ArrayList<>(List.of("-d", place.toString()));
        files.add(shortened(place, "src/main/java/HiddenExits.java", "MAX_ROUNDS = 60;", "MAX_ROUNDS = " + rounds + ";",
            "MAX_PASSES = 30;", "MAX_PASSES = " + passes + ";"));
        files.add(shortened(place, "src/test/java/Reference.java", "k <= 60;", "k <= " + rounds + ";",
            "pass < 30 ", "pass < " + passes + " "));
        for (String name : new String[] {"Pair", "Domains", "FuzzTest"}) {
            files.add("src/test/java/" + name + ".java");
        }
        JavaCompiler compiler = ToolProvider.getSystemJavaCompiler();
        if (compiler.run(null, null, null, files.toArray(new String[0])) != 0) {
            System.out.println("the classes with shorter bounds do not compile");
            System.exit(1);
        }
        System.out.println("at most " + rounds + " rounds and " + passes + " passes:");
        // Not this class's own loader: the names must lead to the classes that have just been compiled.
        URL[] urls = {place.toUri().toURL()};
        try (URLClassLoader loader = new URLClassLoader(urls, ClassLoader.getPlatformClassLoader())) {
            String[] arguments = {"40", Integer.toString(7000 + rounds)};
            loader.loadClass("FuzzTest").getMethod("main", String[].class).invoke(null, (Object) arguments);
        }
    }

    /** Writes a copy of a file in which the words are replaced, each of which must stand there once. */
    private static String shortened(Path place, String file, String... words) throws IOException {
        String source = Files.readString(Path.of(file));
        for (int k = 0; k < words.length; k += 2) {
            int at = source.indexOf(words[k]);
            if (at < 0 || at != source.lastIndexOf(words[k])) {
                System.out.println(file + " does not have this once: " + words[k]);
                System.exit(1);
            }
            source = source.replace(words[k], words[k + 1]);
        }
        Path copy = place.resolve(Path.of(file).getFileName());
        Files.writeString(copy, source);
        return copy.toString();
    }

    private static void delete(File place) {
        for (File file : place.listFiles()) {
            file.delete();
        }
        place.delete();
    }
}
