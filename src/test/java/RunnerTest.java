import java.io.IOException;
import java.nio.file.Files;
import java.nio.file.Path;
import java.nio.file.StandardCopyOption;
import java.util.ArrayList;
import java.util.Comparator;
import java.util.List;
import java.util.concurrent.Callable;
import java.util.concurrent.ExecutorService;
import java.util.concurrent.Executors;
import java.util.concurrent.Future;
import java.util.stream.Stream;

/**
 * The command that README.md names runs every test and fails if one fails. It is played on small projects, which
 * have a class, two tests of their own and two shared ones, that all pass, but for what is spoilt.
 */
public final class RunnerTest {
    private static final String CLASS = "main/src/main/java/HiddenExits.java";
    private static final String OWN = "main/src/test/java/OneTest.java";
    private static final String OTHER = "main/src/test/java/TwoTest.java";
    private static final String SHARED = "shared/tests/OneRuns.java";
    private static final String MORE = "shared/tests/TwoRuns.java";
    private static final String BROKEN = "public final class {";

    /** What the command printed, and how it ended. */
    private record End(String printed, int code) {
    }

    public static void main(String[] args) throws Exception {
        ExecutorService threads = Executors.newFixedThreadPool(4);
        List<Future<String>> faults = new ArrayList<>();
        for (Callable<String> each : cases()) {
            faults.add(threads.submit(each));
        }
        // Before the answers are asked for: threads that wait for more would keep the test from ending if one throws.
        threads.shutdown();
        for (Future<String> fault : faults) {
            String text = fault.get();
            Check.due(0, text.isEmpty() ? "the command ends as it must" : text, text.isEmpty() ? 1 : 0, 1);
        }
        Check.finish();
    }

    private static List<Callable<String>> cases() {
        List<Callable<String>> all = new ArrayList<>();
        all.add(() -> ends("nothing is spoilt", CLASS, main("HiddenExits", 0), true, "4 passed, 0 failed",
            "OneTest ran", "TwoTest ran", "OneRuns ran", "TwoRuns ran"));
        for (String test : new String[] {OWN, OTHER, SHARED, MORE}) {
            String name = Path.of(test).getFileName().toString().replace(".java", "");
            all.add(() -> ends(name + " ends with 1", test, main(name, 1), false, "3 passed, 1 failed",
                "OneTest ran", "TwoTest ran", "OneRuns ran", "TwoRuns ran"));
        }
        all.add(() -> ends("a test throws", OTHER, main("TwoTest", 0).replace("System.exit(0)", "throw new Error()"), false,
            "3 passed, 1 failed", "OneTest ran", "OneRuns ran", "TwoRuns ran"));
        all.add(() -> ends("the class does not compile", CLASS, BROKEN, false));
        all.add(() -> ends("a test does not compile", OWN, BROKEN, false));
        all.add(() -> ends("a shared test does not compile", SHARED, BROKEN, false, "TwoRuns ran", "TwoTest ran"));
        all.add(() -> ends("there is no shared test", SHARED, null, false, "OneTest ran", "TwoTest ran"));
        return all;
    }

    /** A class that says that it ran, and ends with a code. */
    private static String main(String name, int code) {
        return "public final class " + name + " {\n    public static void main(String[] args) {\n        System.out.println(\""
            + name + " ran\");\n        System.exit(" + code + ");\n    }\n}\n";
    }

    /** Plays a project in which a file is spoilt (all shared ones are left out for null); answers what is wrong. */
    private static String ends(String what, String spoilt, String source, boolean well, String... printed) throws Exception {
        Path place = Files.createTempDirectory("runner");
        try {
            for (String file : new String[] {CLASS, OWN, OTHER, SHARED, MORE}) {
                String name = Path.of(file).getFileName().toString().replace(".java", "");
                write(place.resolve(file), main(name, 0));
            }
            if (source == null) {
                Files.delete(place.resolve(SHARED));
                Files.delete(place.resolve(MORE));
            } else {
                write(place.resolve(spoilt), source);
            }
            End end = run(place.resolve("main"));
            String wrong = end.code == 0 == well ? "" : what + ": the command ended with " + end.code;
            for (String line : printed) {
                wrong = end.printed.lines().anyMatch(line::equals) ? wrong : wrong + "; " + what + ": it did not print " + line;
            }
            return wrong;
        } finally {
            delete(place);
        }
    }

    private static void write(Path file, String source) throws IOException {
        Files.createDirectories(file.getParent());
        Files.writeString(file, source);
    }

    /** Runs the command in a project, to which the file that it names is copied. */
    private static End run(Path project) throws Exception {
        String command = Readme.command();
        Path script = project.resolve(command);
        Files.createDirectories(script.getParent());
        Files.copy(Path.of(command), script, StandardCopyOption.COPY_ATTRIBUTES);
        Process process = new ProcessBuilder("sh", "-c", command).directory(project.toFile()).redirectErrorStream(true).start();
        process.getOutputStream().close();
        String printed = new String(process.getInputStream().readAllBytes());
        return new End(printed, process.waitFor());
    }

    private static void delete(Path place) throws IOException {
        try (Stream<Path> files = Files.walk(place)) {
            for (Path file : files.sorted(Comparator.reverseOrder()).toList()) {
                Files.delete(file);
            }
        }
    }
}
