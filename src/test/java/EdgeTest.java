import java.io.IOException;
import java.util.List;
import java.util.Map;

/** Promises 1 to 35: each sentence of the document that names a boundary case has a test of its own, and holds. */
public final class EdgeTest {
    /** These say what is spoken of, and name no case. */
    private static final List<String> NO_CASE = List.of("These are its choices", "A router i hears",
        "When a router i makes a step, its choices become the following ones",
        "Of the considered routes, the first route is the one that is left after these rules, one after the other",
        "The constructor and the methods follow, a promise each: the signature, then what it does",
        "Returns something about two routers", "Returns which session two routers have", "Returns a property of an exit",
        "Returns something about a choice of a router", "Finds how a packet that is sent from a router leaves the domain",
        "Computes a run", "Returns a figure", "Returns that number", "Returns the property", "Returns the figure", "Returns the sum",
        "Returns the numerator or the denominator", "a router", "the router", "the other router", "number of the exit", "the exit",
        "the new random number");

    public static void main(String[] args) throws IOException {
        TextEdges.check();
        StepEdges.check();
        ActEdges.check();
        ChoiceEdges.check();
        RunEdges.check();
        NumberEdges.check();
        SlotEdges.check();
        CallEdges.check();
        Edge.endSentence();
        sentences();
        Check.finish();
    }

    /** Every quote stands in the document, and every sentence of the document is quoted, but for those above. */
    private static void sentences() throws IOException {
        Map<Integer, String> sections = Sentences.sections();
        Check.due(0, "the number of promises", sections.size() - 1, 35);
        for (Map.Entry<Integer, String> section : sections.entrySet()) {
            int promise = section.getKey();
            String text = Sentences.plain(section.getValue());
            List<String> quotes = Edge.QUOTED.getOrDefault(promise, List.of());
            for (String quote : quotes) {
                Check.due(promise, "the document has '" + quote + "'", text.contains(quote) ? 1 : 0, 1);
            }
            for (String sentence : Sentences.cut(section.getValue(), promise > 0)) {
                boolean tested = isTested(sentence, quotes) || NO_CASE.contains(sentence);
                Check.due(promise, "there is a test of '" + sentence + "'", tested ? 1 : 0, 1);
            }
        }
    }

    /** A sentence is tested as a whole, or in parts that leave nothing of it. */
    private static boolean isTested(String sentence, List<String> quotes) {
        String left = sentence;
        for (String quote : quotes) {
            if (quote.contains(sentence)) {
                return true;
            }
            left = left.replace(quote.replaceAll("[.;:)]+$", ""), "");
        }
        return !left.matches(".*\\w.*");
    }
}
