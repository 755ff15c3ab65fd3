import java.util.Map;
import java.util.Random;
import java.util.TreeMap;

/** Promises 1 to 35: random calls on random domains are answered as by the reference. */
public final class FuzzTest {
    private static final String[] METHODS = {"write", "wipe", "fault", "domain", "link", "session", "exit", "step",
        "step", "step", "round", "round", "setLink", "turn", "weigh", "add", "add", "setMode", "undo", "undo", "choice",
        "heard", "tells", "mesh", "leaves", "run", "run", "healed", "judge", "judge", "judge", "see", "see", "which",
        "unsee", "share", "lost", "seed", "drawn", "keep", "again", "count"};
    private static final Map<String, Integer> SEEN = new TreeMap<>();

    public static void main(String[] args) {
        int objects = args.length > 0 ? Integer.parseInt(args[0]) : 120;
        int first = args.length > 1 ? Integer.parseInt(args[1]) : 1;
        for (int object = 0; object < objects; object++) {
            play(new Random(first + object));
        }
        if (args.length == 0) {
            mustHaveMet("cycle", "late cycle", "two rests", "no order rests", "some orders rest", "healed by one",
                "healed by two", "negative share", "rest of some sets", "one exit may have been down");
        }
        System.out.println(SEEN);
        System.out.println(Pair.wrong == 0 ? "all answers are as due" : Pair.wrong + " answers are not as due");
        if (Pair.wrong != 0) {
            System.exit(1);
        }
    }

    private static void mustHaveMet(String... figures) {
        for (String figure : figures) {
            if (!SEEN.containsKey(figure)) {
                System.out.println("the calls never met: " + figure);
                Pair.wrong++;
            }
        }
    }

    private static void play(Random random) {
        Pair pair = new Pair();
        int kind = random.nextInt(10);
        if (kind > 0) {
            pair.text(kind > 5 ? Domains.restless(random) : Domains.valid(random));
            pair.call("domain", 0);
        }
        for (int k = 0; k < 120; k++) {
            if (random.nextInt(60) == 0) {
                pair.text(random.nextInt(3) == 0 ? Domains.spoilt(random) : Domains.valid(random));
                pair.call("domain", 0);
            }
            String method = METHODS[random.nextInt(METHODS.length)];
            callSomehow(pair, method, random);
            if (k % 10 == 0) {
                pair.compareStates();
            }
        }
        analyse(pair);
        if (kind > 5) {
            // Once more, as the calls before may have calmed it.
            pair.text(Domains.restless(random));
            pair.call("domain", 0);
            pair.call("add", random.nextInt(6));
            analyse(pair);
        }
    }

    private static void callSomehow(Pair pair, String method, Random random) {
        long l = method.equals("judge") ? 0 : random.nextLong();
        int a = number(random, 5);
        int b = number(random, 5);
        int c = number(random, 5);
        switch (method) {
            case "write" -> a = random.nextInt(4) == 0 ? random.nextInt(300) - 20 : "Dlpce01234".charAt(random.nextInt(10));
            case "link", "leaves", "choice" -> c = number(random, 2);
            case "setLink" -> c = number(random, 10);
            case "weigh", "exit" -> b = number(random, 6);
            case "run" -> a = number(random, 2);
            case "lost" -> a = number(random, 11);
            case "drawn" -> a = number(random, 21);
            case "count" -> a = number(random, 11);
            case "healed", "keep", "again" -> a = number(random, 2);
            case "see" -> c = number(random, 2);
            case "judge" -> {
                l = random.nextInt(10) == 0 ? random.nextLong() : row(random);
                a = random.nextInt(10) == 0 ? number(random, 6) : Math.max(1, (Long.toString(l).length() + 3) / 4);
            }
            default -> {
            }
        }
        meet(method, a, pair.call(method, a, b, c, l));
    }

    private static int number(Random random, int bound) {
        int odd = random.nextInt(60);
        if (odd == 0) {
            return random.nextInt();
        }
        return odd <= 4 ? bound + random.nextInt(2) : odd == 5 ? -1 : random.nextInt(bound);
    }

    private static long row(Random random) {
        StringBuilder digits = new StringBuilder();
        int n = 1 + random.nextInt(4);
        for (int k = 0; k < n; k++) {
            int kind = 1 + random.nextInt(7);
            int about = kind == 7 ? 0 : random.nextInt(5);
            int last = switch (kind) {
                case 3 -> random.nextInt(7);
                case 5, 6 -> random.nextInt(5) == 0 ? 9 : random.nextInt(5);
                case 7 -> random.nextInt(2);
                default -> 0;
            };
            int code = kind * 1000 + about * 100 + last + (random.nextInt(40) == 0 ? random.nextInt(100) : 0);
            digits.append(String.format("%04d", code));
        }
        return Long.parseLong(digits.toString());
    }

    /** The dear queries, all of them, on what the calls have left. */
    private static void analyse(Pair pair) {
        for (int what = 0; what <= 3; what++) {
            meet("run" + what, 1, pair.call("run", 1, what, 0, 0));
            pair.call("run", 0, what, 0, 0);
        }
        long all = 1;
        for (int k = pair.routers(); k > 1; k--) {
            all *= k;
        }
        long resting = pair.call("orders", 0);
        note(resting == 0, "no order rests");
        note(resting > 0 && resting < all, "some orders rest");
        note(pair.call("orders", 1) > 1, "two rests");
        pair.call("orders", 2);
        meet("healed", 0, pair.call("healed", 0));
        pair.call("healed", 1);
        for (int exit = 0; exit < 4; exit++) {
            note(pair.call("share", exit, 0, 0, 1) < -1, "negative share");
            pair.call("share", exit, 0, 0, 0);
        }
        for (int x = 0; x <= 10; x += 3) {
            pair.call("lost", x, 0, 0, 0);
            note(pair.call("lost", x, 0, 0, 1) > 1, "rest of some sets");
        }
        pair.call("which", 0);
        pair.compareStates();
    }

    private static void meet(String method, int a, long answer) {
        note(method.equals("run0") && answer == 1, "cycle");
        note(method.equals("run0") && answer == 2, "neither rest nor cycle");
        note(method.equals("run1") && answer > 4, "late cycle");
        note(method.equals("healed") && a == 0 && answer == 1, "healed by one");
        note(method.equals("healed") && a == 0 && answer == 2, "healed by two");
        note(method.equals("healed") && a == 0 && answer > 2, "healed by more");
        note(method.equals("healed") && answer == -9, "not healed");
        note(method.equals("which") && Long.bitCount(answer) == 1, "one exit may have been down");
    }

    private static void note(boolean met, String figure) {
        if (met) {
            SEEN.merge(figure, 1, Integer::sum);
        }
    }
}
