import java.io.IOException;
import java.nio.file.Files;
import java.nio.file.Path;
import java.util.ArrayList;
import java.util.List;
import java.util.regex.Matcher;
import java.util.regex.Pattern;

/** README.md, and the blocks of code in it. */
final class Readme {
    private Readme() {
    }

    static String text() throws IOException {
        return Files.readString(Path.of("README.md"));
    }

    /** The lines of all blocks in a language, one block after the other. */
    static List<String> lines(String language) throws IOException {
        List<String> lines = new ArrayList<>();
        Matcher block = Pattern.compile("(?ms)^```" + language + "\n(.*?)^```$").matcher(text());
        while (block.find()) {
            lines.addAll(List.of(block.group(1).split("\n")));
        }
        return lines;
    }

    /** The command that runs the tests: it is the only one of the page. */
    static String command() throws IOException {
        List<String> lines = lines("sh");
        return lines.size() == 1 ? lines.get(0) : "";
    }
}
