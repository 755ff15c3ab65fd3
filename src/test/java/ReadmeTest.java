import java.io.IOException;
import java.lang.reflect.Method;
import java.lang.reflect.Modifier;
import java.net.URL;
import java.net.URLClassLoader;
import java.nio.file.Files;
import java.nio.file.Path;
import java.util.List;
import java.util.Set;
import java.util.TreeSet;
import java.util.regex.Matcher;
import java.util.regex.Pattern;
import java.util.stream.Stream;
import javax.tools.ToolProvider;

/** README.md holds: its calls answer what it says, it shows every method, and it names every test and the command. */
public final class ReadmeTest {
    private static final Pattern ANSWERED = Pattern.compile("(x\\.(\\w+)\\([^;]*\\));\\s+// (-?\\d+): \\S.*");
    private static final Pattern TEST = Pattern.compile("`(\\w+Test)`");

    public static void main(String[] args) throws Exception {
        example();
        methods();
        tests();
        command();
        Check.finish();
    }

    /** The blocks are compiled as they stand there, but that each answer is compared with the one behind its call. */
    private static void example() throws Exception {
        StringBuilder source = new StringBuilder("public final class ReadmeExample {\n    public static void main(String[] args) {\n");
        int calls = 0;
        for (String line : Readme.lines("java")) {
            Matcher answered = ANSWERED.matcher(line);
            if (answered.matches()) {
                calls++;
                String call = answered.group(1);
                source.append("ReadmeTest.due(\"").append(call).append("\", ").append(call).append(", ")
                    .append(answered.group(3)).append("L);\n");
            } else {
                // The call inside the loop that writes the text is the only one without an answer.
                Check.due(0, "README.md tells the answer of: " + line,
                    line.contains("x.") && !line.equals("    x.write(c);") ? 0 : 1, 1);
                source.append(line).append('\n');
            }
        }
        Check.due(0, "README.md shows some calls", calls >= 34 ? 1 : 0, 1);
        play(source.append("    }\n}\n").toString());
    }

    private static void play(String source) throws Exception {
        Path place = Files.createTempDirectory("readme");
        Path file = place.resolve("ReadmeExample.java");
        Files.writeString(file, source);
        int failed = ToolProvider.getSystemJavaCompiler().run(null, null, null, "-cp", System.getProperty("java.class.path"),
            "-d", place.toString(), file.toString());
        Check.due(0, "the example of README.md compiles", failed, 0);
        URL[] urls = {place.toUri().toURL()};
        try (URLClassLoader loader = new URLClassLoader(urls, ReadmeTest.class.getClassLoader())) {
            if (failed == 0) {
                loader.loadClass("ReadmeExample").getMethod("main", String[].class).invoke(null, (Object) new String[0]);
            }
        }
        Files.deleteIfExists(place.resolve("ReadmeExample.class"));
        Files.delete(file);
        Files.delete(place);
    }

    /** The example calls this. */
    public static void due(String call, long got, long want) {
        Check.due(0, "README.md, " + call, got, want);
    }

    private static void methods() throws IOException {
        String shown = String.join("\n", Readme.lines("java"));
        for (Method method : HiddenExits.class.getDeclaredMethods()) {
            if (Modifier.isPublic(method.getModifiers())) {
                String call = "x." + method.getName() + "(";
                Check.due(0, "README.md shows " + call + "..)", shown.contains(call) ? 1 : 0, 1);
            }
        }
    }

    private static void tests() throws IOException {
        Set<String> named = new TreeSet<>();
        for (String line : Readme.text().split("\n")) {
            if (line.startsWith("| `")) {
                String first = line.split(" \\| ")[0];
                Matcher test = TEST.matcher(first);
                while (test.find()) {
                    named.add(test.group(1));
                }
            }
        }
        Set<String> there = new TreeSet<>();
        try (Stream<Path> files = Files.list(Path.of("src/test/java"))) {
            List<String> names = files.map(file -> file.getFileName().toString()).toList();
            for (String name : names) {
                if (name.endsWith("Test.java")) {
                    there.add(name.replace(".java", ""));
                }
            }
        }
        Check.due(0, "README.md names " + named + ", and there are " + there, named.equals(there) ? 1 : 0, 1);
    }

    /** That the command runs the tests is what RunnerTest tests; here it is the one that runs this test. */
    private static void command() throws IOException {
        String command = Readme.command();
        Check.due(0, "README.md names one command, '" + command + "'", command.equals(".ci/run") ? 1 : 0, 1);
        Check.due(0, "it can be run", Files.isExecutable(Path.of(command)) ? 1 : 0, 1);
    }
}
