import java.io.IOException;
import java.nio.file.Files;
import java.nio.file.Path;
import java.util.ArrayList;
import java.util.List;
import java.util.Map;
import java.util.TreeMap;

/** The document, cut into sentences: those of the promises by number, and those before them as number 0. */
final class Sentences {
    static final Path DOCUMENT = Path.of("../shared/DOC.md");

    private Sentences() {
    }

    /** The text of each promise, and of what stands before them; the public face is left out. */
    static Map<Integer, String> sections() throws IOException {
        Map<Integer, String> all = new TreeMap<>();
        String text = Files.readString(DOCUMENT).replaceAll("(?s)```.*?```", "");
        for (String section : text.substring(0, text.indexOf("## Not promised")).split("(?m)^## Promise ")) {
            all.put(all.size(), section);
        }
        return all;
    }

    /** A clause behind a semicolon is a sentence of its own in a promise, as each of them names another case. */
    static List<String> cut(String section, boolean clauses) {
        List<String> sentences = new ArrayList<>();
        for (String block : section.split("\n\\s*\n|\n(?=- |\\d\\. )")) {
            String line = plain(block);
            if (isOther(line)) {
                continue;
            }
            for (String sentence : line.split(clauses ? "(?<=[.:)]) (?=[A-Z(])|; " : "(?<=[.:)]) (?=[A-Z(])")) {
                sentences.add(sentence.replaceAll("^(- )?(`\\w+`: )?", "").replaceAll("[.:;]$", ""));
            }
        }
        return sentences;
    }

    /** Headings and signatures, what the document begins with, and the examples, which have a test of their own. */
    private static boolean isOther(String line) {
        return line.matches("(#|----|\\d+: |`.*`$|A simulation of routers |Examples: |\\d\\. [^:]*: write\\().*");
    }

    /** The words of a text with single blanks between them. */
    static String plain(String words) {
        return words.replaceAll("\\s+", " ").trim();
    }
}
