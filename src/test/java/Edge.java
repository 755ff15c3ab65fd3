import java.util.ArrayList;
import java.util.HashMap;
import java.util.List;
import java.util.Map;
import java.util.TreeMap;

/** What the tests of single sentences share: each of them names its sentence, then makes the calls at its edge. */
final class Edge {
    /** Makes an object, the same one each time. */
    interface Maker {
        HiddenExits make();
    }

    /** A call on an object. */
    interface Call {
        long on(HiddenExits x);
    }

    /** A call on an object with a number that is inside or outside of what there is. */
    interface NumberCall {
        long on(HiddenExits x, int number);
    }

    private static final int[] FAR_OFF = {-1, 5, 6, 31, 32, 33, -32, Integer.MIN_VALUE, Integer.MAX_VALUE};
    static final Map<Integer, List<String>> QUOTED = new TreeMap<>();
    private static final Map<Maker, String> SEEN = new HashMap<>();
    private static int promise;
    private static String words = "";
    private static int made;

    private Edge() {
    }

    /** Names the sentence of a promise (0: of what stands before the promises) that the next checks are about. */
    static void sentence(int number, String quote) {
        endSentence();
        promise = number;
        words = quote;
        made = 0;
        QUOTED.computeIfAbsent(number, n -> new ArrayList<>()).add(quote);
    }

    static void endSentence() {
        if (!words.isEmpty() && made == 0) {
            Check.due(promise, "the number of checks of '" + words + "'", 0, 1);
        }
    }

    static void due(String call, long got, long want) {
        made++;
        Check.due(promise, call + " ('" + words + "')", got, want);
    }

    /** The call answers a code and leaves all as it was. */
    static void refused(Maker maker, String name, Call call, int code) {
        due(name, call.on(maker.make()), code);
        unchanged(maker, name, call);
    }

    /** The call leaves all as it was. */
    static void unchanged(Maker maker, String name, Call call) {
        String before = SEEN.computeIfAbsent(maker, Everything::of);
        String after = Everything.of(() -> {
            HiddenExits x = maker.make();
            call.on(x);
            return x;
        });
        due(name + " leaves all as it was", after.equals(before) ? 1 : 0, 1);
    }

    private static void noError(String name, long answer) {
        due(name + " is no error", answer >= 0 || answer == Check.NONE ? 1 : 0, 1);
    }

    /** The last router, or exit, is no error; one behind it is, and so are others, and they leave all as it was. */
    static void unknown(String name, boolean exits, NumberCall call) {
        for (Maker maker : Makers.ALL) {
            int first = maker.make().count(exits ? 4 : 1);
            for (int number : FAR_OFF) {
                if (number < 0 || number >= first) {
                    refused(maker, name + " of " + number, x -> call.on(x, number), Check.UNKNOWN);
                }
            }
            refused(maker, name + " of " + first, x -> call.on(x, first), Check.UNKNOWN);
            if (first > 0) {
                noError(name + " of " + (first - 1), call.on(maker.make(), first - 1));
            }
        }
    }

    /** The numbers from low to high are no error, and those outside are, and they leave all as it was. */
    static void range(String name, int low, int high, NumberCall call) {
        for (Maker maker : new Maker[] {Makers.BUSY, Makers.FULL}) {
            for (int number = low; number <= high; number++) {
                noError(name + " of " + number, call.on(maker.make(), number));
            }
            int[] outside = {low - 1, high + 1, Integer.MIN_VALUE, Integer.MAX_VALUE};
            for (int number : outside) {
                refused(maker, name + " of " + number, x -> call.on(x, number), Check.OUTSIDE);
            }
        }
    }

    /** The figures of an object, by the numbers of count. */
    static void figures(HiddenExits x, int... want) {
        for (int what = 0; what < want.length; what++) {
            due("count(" + what + ")", x.count(what), want[what]);
        }
    }

    /** The exit, the source and the marks of a choice; none of them stands for no route. */
    static void choice(HiddenExits x, int router, int second, int... want) {
        for (int what = 0; what < 3; what++) {
            String call = "choice(" + router + ", " + second + ", " + what + ")";
            due(call, x.choice(router, second, what), want.length == 0 ? Check.NONE : want[what]);
        }
    }

    static void rounds(HiddenExits x, int times) {
        for (int k = 0; k < times; k++) {
            x.round();
        }
    }
}
