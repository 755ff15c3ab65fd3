import java.util.ArrayList;
import java.util.HashMap;
import java.util.List;
import java.util.Map;
import java.util.TreeMap;

/** What the tests of single sentences share: each of them names its sentence, then makes the calls at its edge. */
final class Edge {
    /** Makes an object, the same one each time. */
    interface Maker {
        HiddenExits make();
    }

    /** A call on an object. */
    interface Call {
        long on(HiddenExits x);
    }

    static final Map<Integer, List<String>> QUOTED = new TreeMap<>();
    private static final Map<Maker, String> SEEN = new HashMap<>();
    private static int promise;
    private static String words = "";
    private static int made;

    private Edge() {
    }

    /** Names the sentence of a promise (0: of what stands before the promises) that the next checks are about. */
    static void sentence(int number, String quote) {
        endSentence();
        promise = number;
        words = quote;
        made = 0;
        QUOTED.computeIfAbsent(number, n -> new ArrayList<>()).add(quote);
    }

    static void endSentence() {
        if (!words.isEmpty() && made == 0) {
            Check.due(promise, "the number of checks of '" + words + "'", 0, 1);
        }
    }

    static void due(String call, long got, long want) {
        made++;
        Check.due(promise, call + " ('" + words + "')", got, want);
    }

    /** The call answers a code and leaves all as it was. */
    static void refused(Maker maker, String name, Call call, int code) {
        due(name, call.on(maker.make()), code);
        unchanged(maker, name, call);
    }

    /** The call leaves all as it was. */
    static void unchanged(Maker maker, String name, Call call) {
        String before = SEEN.computeIfAbsent(maker, Everything::of);
        String after = Everything.of(() -> {
            HiddenExits x = maker.make();
            call.on(x);
            return x;
        });
        due(name + " leaves all as it was", after.equals(before) ? 1 : 0, 1);
    }

    /** The figures of an object, by the numbers of count. */
    static void figures(HiddenExits x, int... want) {
        for (int what = 0; what < want.length; what++) {
            due("count(" + what + ")", x.count(what), want[what]);
        }
    }

    /** The exit, the source and the marks of a choice; none of them stands for no route. */
    static void choice(HiddenExits x, int router, int second, int... want) {
        for (int what = 0; what < 3; what++) {
            String call = "choice(" + router + ", " + second + ", " + what + ")";
            due(call, x.choice(router, second, what), want.length == 0 ? Check.NONE : want[what]);
        }
    }

    static void rounds(HiddenExits x, int times) {
        for (int k = 0; k < times; k++) {
            x.round();
        }
    }
}
