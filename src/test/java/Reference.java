import java.util.ArrayList;
import java.util.Comparator;
import java.util.HashMap;
import java.util.HashSet;
import java.util.List;
import java.util.Map;
import java.util.Set;
import java.util.TreeMap;
import java.util.TreeSet;
import java.util.regex.Matcher;
import java.util.regex.Pattern;

/**
 * The document once more, word by word and without regard to speed, so that the class can be compared with it.
 * It shares no code and no way of working with the class: routes are objects, rules are filters, nothing is
 * cut short.
 */
final class Reference {
    static final int UNKNOWN = -1, OUTSIDE = -2, STATE = -3, FULL = -4, NONE = -9;

    record Route(int exit, int from, Set<Integer> marks) {
    }

    record Exit(int router, int neighbour, int path, int weight, boolean up) {
        Exit withUp(boolean value) {
            return new Exit(router, neighbour, path, weight, value);
        }

        Exit withWeight(int value) {
            return new Exit(router, neighbour, path, value, up);
        }
    }

    record Sighting(int router, int exit, boolean was) {
    }

    /** A domain with its choices. */
    static final class World {
        int n = 1;
        Map<Set<Integer>, Integer> links = new HashMap<>();
        /** For a pair (i, j): "p" for peers, "c" if j is a client of i. */
        Map<List<Integer>, String> sessions = new HashMap<>();
        List<Exit> exits = new ArrayList<>();
        Set<Integer> extended = new TreeSet<>();
        int mode;
        List<List<Route>> choices = new ArrayList<>(List.of(List.of()));
        private Map<List<Integer>, Integer> distances;

        World copy() {
            World w = new World();
            w.n = n;
            w.links = new HashMap<>(links);
            w.sessions = sessions;
            w.exits = new ArrayList<>(exits);
            w.extended = new TreeSet<>(extended);
            w.mode = mode;
            w.choices = new ArrayList<>(choices);
            w.distances = distances;
            return w;
        }

        void noChoices() {
            choices = new ArrayList<>();
            for (int i = 0; i < n; i++) {
                choices.add(List.of());
            }
        }

        void setLink(int i, int j, int cost) {
            if (cost == 0) {
                links.remove(Set.of(i, j));
            } else {
                links.put(Set.of(i, j), cost);
            }
            distances = null;
        }

        int cost(int i, int j) {
            return i == j ? 0 : links.getOrDefault(Set.of(i, j), 0);
        }

        /** The cheapest of all paths that come nowhere twice; null if there is none. */
        Integer distance(int i, int j) {
            if (distances == null) {
                distances = new HashMap<>();
                for (int a = 0; a < n; a++) {
                    walk(a, a, 0, new HashSet<>());
                }
            }
            return distances.get(List.of(i, j));
        }

        private void walk(int start, int here, int sum, Set<Integer> seen) {
            distances.merge(List.of(start, here), sum, Math::min);
            seen.add(here);
            for (int next = 0; next < n; next++) {
                if (cost(here, next) > 0 && !seen.contains(next)) {
                    walk(start, next, sum + cost(here, next), seen);
                }
            }
            seen.remove(here);
        }

        boolean isClient(int client, int of) {
            return "c".equals(sessions.get(List.of(of, client)));
        }

        boolean haveSession(int i, int j) {
            return sessions.containsKey(List.of(i, j)) || sessions.containsKey(List.of(j, i));
        }

        boolean tells(int j, int i, Route route) {
            if (!haveSession(i, j) || route.from() == i) {
                return false;
            }
            return route.from() == j || isClient(route.from(), j) || isClient(i, j);
        }

        List<Route> hears(int i) {
            List<Route> heard = new ArrayList<>();
            for (int e = 0; e < exits.size(); e++) {
                if (exits.get(e).router() == i && exits.get(e).up()) {
                    heard.add(new Route(e, i, Set.of()));
                }
            }
            for (int j = 0; j < n; j++) {
                for (Route route : choices.get(j)) {
                    Set<Integer> marks = new TreeSet<>(route.marks());
                    marks.add(j);
                    boolean far = distance(i, exits.get(route.exit()).router()) == null;
                    if (tells(j, i, route) && !marks.contains(i) && !far) {
                        heard.add(new Route(route.exit(), j, marks));
                    }
                }
            }
            return heard;
        }

        List<Route> considers(int i) {
            Map<Integer, Route> best = new TreeMap<>();
            Comparator<Route> order = Comparator.comparing((Route r) -> r.marks().size()).thenComparing(Route::from);
            for (Route route : hears(i)) {
                best.merge(route.exit(), route, (a, b) -> order.compare(a, b) <= 0 ? a : b);
            }
            return new ArrayList<>(best.values());
        }

        Route left(int i, List<Route> routes) {
            List<Route> left = routes;
            int path = left.stream().mapToInt(r -> exits.get(r.exit()).path()).min().orElse(0);
            left = left.stream().filter(r -> exits.get(r.exit()).path() == path).toList();
            List<Route> before = left;
            left = left.stream().filter(r -> before.stream().noneMatch(other -> lighter(other, r))).toList();
            if (left.stream().anyMatch(r -> r.from() == i)) {
                left = left.stream().filter(r -> r.from() == i).toList();
            }
            int near = left.stream().mapToInt(r -> distance(i, exits.get(r.exit()).router())).min().orElse(0);
            left = left.stream().filter(r -> distance(i, exits.get(r.exit()).router()) == near).toList();
            return left.stream().min(Comparator.comparing(Route::exit)).orElse(null);
        }

        private boolean lighter(Route other, Route route) {
            Exit a = exits.get(other.exit());
            Exit b = exits.get(route.exit());
            boolean less = a.weight() < b.weight();
            return less && (mode == 1 || mode == 0 && a.neighbour() == b.neighbour());
        }

        List<Route> decides(int i) {
            List<Route> considered = considers(i);
            Route first = left(i, considered);
            if (first == null) {
                return List.of();
            }
            considered.remove(first);
            Route second = left(i, considered);
            return extended.contains(i) && second != null ? List.of(first, second) : List.of(first);
        }

        boolean step(int i) {
            List<Route> before = choices.get(i);
            choices.set(i, decides(i));
            return !before.equals(choices.get(i));
        }

        int round() {
            List<List<Route>> after = new ArrayList<>();
            int changed = 0;
            for (int i = 0; i < n; i++) {
                after.add(decides(i));
                changed += after.get(i).equals(choices.get(i)) ? 0 : 1;
            }
            choices = after;
            return changed;
        }

        void add(int i) {
            if (!extended.add(i)) {
                extended.remove(i);
                choices.set(i, choices.get(i).stream().limit(1).toList());
            }
        }

        int firstExit(int i) {
            return choices.get(i).isEmpty() ? NONE : choices.get(i).get(0).exit();
        }

        int rest() {
            StringBuilder digits = new StringBuilder();
            for (int i = 0; i < n; i++) {
                digits.append(firstExit(i) == NONE ? 9 : firstExit(i));
            }
            return Integer.parseInt(digits.toString());
        }

        /** The exit and the number of links; null if the packet does not leave. */
        int[] leaves(int start) {
            int here = start;
            int gone = 0;
            while (gone < 6) {
                int exit = firstExit(here);
                if (exit == NONE) {
                    return null;
                }
                int target = exits.get(exit).router();
                if (target == here) {
                    return new int[] {exit, gone};
                }
                if (distance(here, target) == null) {
                    return null;
                }
                TreeMap<List<Integer>, Integer> ways = new TreeMap<>(
                    Comparator.comparing((List<Integer> l) -> l.get(0)).thenComparing(l -> l.get(1)));
                for (int next = 0; next < n; next++) {
                    if (cost(here, next) > 0 && distance(next, target) != null) {
                        ways.put(List.of(cost(here, next) + distance(next, target), next), next);
                    }
                }
                here = ways.firstEntry().getValue();
                gone++;
            }
            return null;
        }

        /** What, first, length of the cycle; the world has the choices of the last round after that. */
        int[] run() {
            List<List<List<Route>>> seen = new ArrayList<>();
            seen.add(choices);
            for (int k = 1; k <= 60; k++) {
                int changed = round();
                int same = seen.indexOf(choices);
                if (changed == 0) {
                    return new int[] {0, same, 0};
                }
                if (same >= 0) {
                    return new int[] {1, same, k - same};
                }
                seen.add(choices);
            }
            return new int[] {2, NONE, NONE};
        }

        boolean rests() {
            noChoices();
            return run()[0] == 0;
        }

        void onlyUp(Set<Integer> up) {
            for (int e = 0; e < exits.size(); e++) {
                exits.set(e, exits.get(e).withUp(up.contains(e)));
            }
        }
    }

    private String text = "";
    private World world = new World();
    private final List<World> past = new ArrayList<>();
    private final World[] slots = new World[2];
    private final List<Sighting> sightings = new ArrayList<>();
    private long random;

    int write(int letter) {
        if (letter < 0 || letter > 255) {
            return OUTSIDE;
        }
        if (text.length() == 90) {
            return FULL;
        }
        text += (char) letter;
        return text.length();
    }

    int wipe() {
        int had = text.length();
        text = "";
        return had;
    }

    // ---- the fault, by the document's definition: is there a valid text that begins so?

    private static final Pattern PART = Pattern.compile("l(\\d)(\\d)[1-9]|([pc])(\\d)(\\d)|e(\\d)[0-2][1-5][0-5]");
    private static final Pattern WHOLE = Pattern.compile("D[1-5](" + PART.pattern() + ")*");

    static boolean isValid(String text) {
        if (!WHOLE.matcher(text).matches()) {
            return false;
        }
        int n = text.charAt(1) - '0';
        Set<List<Object>> used = new HashSet<>();
        int exits = 0;
        Matcher part = PART.matcher(text.substring(2));
        while (part.find()) {
            if (part.group(6) != null) {
                exits++;
                if (exits > 4 || Integer.parseInt(part.group(6)) >= n) {
                    return false;
                }
                continue;
            }
            boolean link = part.group(1) != null;
            int i = Integer.parseInt(link ? part.group(1) : part.group(4));
            int j = Integer.parseInt(link ? part.group(2) : part.group(5));
            if (i >= n || j >= n || i == j || !used.add(List.of(link, Set.of(i, j)))) {
                return false;
            }
        }
        return true;
    }

    /** No text that can begin so needs more than four further characters. */
    static boolean canBegin(String text, int more) {
        if (isValid(text)) {
            return true;
        }
        if (more == 0) {
            return false;
        }
        for (char c : "1023456789D".toCharArray()) {
            if (canBegin(text + c, more - 1)) {
                return true;
            }
        }
        return false;
    }

    static int faultOf(String text) {
        for (int k = 1; k <= text.length(); k++) {
            if (!canBegin(text.substring(0, k), 4)) {
                return k - 1;
            }
        }
        return isValid(text) ? NONE : text.length();
    }

    int fault() {
        return faultOf(text);
    }

    int domain() {
        if (fault() != NONE) {
            return STATE;
        }
        World w = new World();
        w.n = text.charAt(1) - '0';
        int parts = 0;
        for (int k = 2; k < text.length(); parts++) {
            char kind = text.charAt(k);
            int i = text.charAt(k + 1) - '0';
            int j = text.charAt(k + 2) - '0';
            if (kind == 'l') {
                w.setLink(i, j, text.charAt(k + 3) - '0');
                k += 4;
            } else if (kind == 'e') {
                w.exits.add(new Exit(i, j, text.charAt(k + 3) - '0', text.charAt(k + 4) - '0', true));
                k += 5;
            } else {
                w.sessions.put(List.of(i, j), "" + kind);
                k += 3;
            }
        }
        w.noChoices();
        world = w;
        past.clear();
        slots[0] = null;
        slots[1] = null;
        return parts;
    }

    private boolean router(int i) {
        return i >= 0 && i < world.n;
    }

    private boolean exitExists(int e) {
        return e >= 0 && e < world.exits.size();
    }

    private static boolean within(int v, int low, int high) {
        return v >= low && v <= high;
    }

    int link(int i, int j, int what) {
        if (!router(i) || !router(j)) {
            return UNKNOWN;
        }
        if (!within(what, 0, 1)) {
            return OUTSIDE;
        }
        if (what == 0) {
            return world.cost(i, j);
        }
        return world.distance(i, j) == null ? NONE : world.distance(i, j);
    }

    int session(int i, int j) {
        if (!router(i) || !router(j)) {
            return UNKNOWN;
        }
        if (!world.haveSession(i, j)) {
            return 0;
        }
        return world.isClient(j, i) ? 2 : world.isClient(i, j) ? 3 : 1;
    }

    int exit(int exit, int what) {
        if (!exitExists(exit)) {
            return UNKNOWN;
        }
        if (!within(what, 0, 4)) {
            return OUTSIDE;
        }
        Exit e = world.exits.get(exit);
        return new int[] {e.router(), e.neighbour(), e.path(), e.weight(), e.up() ? 1 : 0}[what];
    }

    private void act() {
        past.add(world.copy());
        if (past.size() > 14) {
            past.remove(0);
        }
    }

    int step(int router) {
        if (!router(router)) {
            return UNKNOWN;
        }
        act();
        return world.step(router) ? 1 : 0;
    }

    int round() {
        act();
        return world.round();
    }

    int setLink(int i, int j, int c) {
        if (!router(i) || !router(j)) {
            return UNKNOWN;
        }
        if (i == j || !within(c, 0, 9)) {
            return OUTSIDE;
        }
        act();
        int previous = world.cost(i, j);
        world.setLink(i, j, c);
        return previous;
    }

    int turn(int exit) {
        if (!exitExists(exit)) {
            return UNKNOWN;
        }
        act();
        world.exits.set(exit, world.exits.get(exit).withUp(!world.exits.get(exit).up()));
        return world.exits.get(exit).up() ? 1 : 0;
    }

    int weigh(int exit, int v) {
        if (!exitExists(exit)) {
            return UNKNOWN;
        }
        if (!within(v, 0, 5)) {
            return OUTSIDE;
        }
        act();
        int previous = world.exits.get(exit).weight();
        world.exits.set(exit, world.exits.get(exit).withWeight(v));
        return previous;
    }

    int add(int router) {
        if (!router(router)) {
            return UNKNOWN;
        }
        act();
        world.add(router);
        return world.extended.contains(router) ? 1 : 0;
    }

    int setMode(int v) {
        if (!within(v, 0, 2)) {
            return OUTSIDE;
        }
        act();
        int previous = world.mode;
        world.mode = v;
        return previous;
    }

    int undo() {
        if (past.isEmpty()) {
            return STATE;
        }
        world = past.remove(past.size() - 1);
        return past.size();
    }

    private static int setOf(Iterable<Integer> numbers) {
        int set = 0;
        for (int number : numbers) {
            set |= 1 << number;
        }
        return set;
    }

    private static Set<Integer> membersOf(int set) {
        Set<Integer> members = new TreeSet<>();
        for (int k = 0; k < 32; k++) {
            if ((set >>> k & 1) == 1) {
                members.add(k);
            }
        }
        return members;
    }

    int choice(int router, int second, int what) {
        if (!router(router)) {
            return UNKNOWN;
        }
        if (!within(second, 0, 1) || !within(what, 0, 2)) {
            return OUTSIDE;
        }
        if (world.choices.get(router).size() <= second) {
            return NONE;
        }
        Route route = world.choices.get(router).get(second);
        return what == 0 ? route.exit() : what == 1 ? route.from() : setOf(route.marks());
    }

    int heard(int router) {
        if (!router(router)) {
            return UNKNOWN;
        }
        return setOf(world.hears(router).stream().map(Route::exit).toList());
    }

    int tells(int router, int other) {
        if (!router(router) || !router(other)) {
            return UNKNOWN;
        }
        List<Route> choices = world.choices.get(router);
        return !choices.isEmpty() && world.tells(router, other, choices.get(0)) ? 1 : 0;
    }

    int mesh(int router) {
        if (!router(router)) {
            return UNKNOWN;
        }
        List<Route> routes = new ArrayList<>();
        for (int e = 0; e < world.exits.size(); e++) {
            int at = world.exits.get(e).router();
            if (world.exits.get(e).up() && world.distance(router, at) != null) {
                routes.add(new Route(e, at, Set.of()));
            }
        }
        Route first = world.left(router, routes);
        return first == null ? NONE : first.exit();
    }

    int leaves(int router, int what) {
        if (!router(router)) {
            return UNKNOWN;
        }
        if (!within(what, 0, 1)) {
            return OUTSIDE;
        }
        int[] way = world.leaves(router);
        return way == null ? NONE : way[what];
    }

    int run(int none, int what) {
        if (!within(none, 0, 1) || !within(what, 0, 3)) {
            return OUTSIDE;
        }
        World w = world.copy();
        if (none == 1) {
            w.noChoices();
        }
        int[] ran = w.run();
        if (what < 3) {
            return ran[what];
        }
        return ran[0] == 0 ? w.rest() : NONE;
    }

    private static void permute(List<Integer> done, int n, List<List<Integer>> all) {
        if (done.size() == n) {
            all.add(new ArrayList<>(done));
            return;
        }
        for (int k = 0; k < n; k++) {
            if (!done.contains(k)) {
                done.add(k);
                permute(done, n, all);
                done.remove(done.size() - 1);
            }
        }
    }

    private static List<List<Integer>> permutations(int n) {
        List<List<Integer>> all = new ArrayList<>();
        permute(new ArrayList<>(), n, all);
        return all;
    }

    private final Map<List<Object>, List<Integer>> knownOrders = new HashMap<>();

    int orders(int what) {
        if (!within(what, 0, 2)) {
            return OUTSIDE;
        }
        World key = world.copy();
        List<Object> about = List.of(key.n, key.links, key.sessions, key.exits, key.extended, key.mode);
        if (!knownOrders.containsKey(about)) {
            knownOrders.put(about, triedOrders());
        }
        return knownOrders.get(about).get(what);
    }

    private List<Integer> triedOrders() {
        int resting = 0;
        TreeSet<Integer> rests = new TreeSet<>();
        for (List<Integer> order : permutations(world.n)) {
            World w = world.copy();
            w.noChoices();
            boolean changed = true;
            for (int pass = 0; pass < 30 && changed; pass++) {
                changed = false;
                for (int router : order) {
                    changed |= w.step(router);
                }
            }
            if (!changed) {
                resting++;
                rests.add(w.rest());
            }
        }
        return List.of(resting, rests.size(), rests.isEmpty() ? NONE : rests.first());
    }

    int healed(int what) {
        if (!within(what, 0, 1)) {
            return OUTSIDE;
        }
        int best = NONE;
        for (int set = (1 << world.n) - 1; set >= 0; set--) {
            World w = world.copy();
            w.extended = membersOf(set);
            if (w.rests() && (best == NONE || Integer.bitCount(set) <= Integer.bitCount(best))) {
                best = set;
            }
        }
        return best == NONE || what == 1 ? best : Integer.bitCount(best);
    }

    int judge(int n, long row) {
        if (!within(n, 1, 4) || row < 0 || Long.toString(row).length() > 4 * n) {
            return OUTSIDE;
        }
        String digits = "0".repeat(4 * n - Long.toString(row).length()) + row;
        Reference other = new Reference();
        other.world = world.copy();
        for (int k = 0; k < n; k++) {
            if (!other.isTrue(digits.substring(4 * k, 4 * k + 4))) {
                return k;
            }
        }
        return NONE;
    }

    private boolean isTrue(String s) {
        int b = s.charAt(1) - '0';
        int d = s.charAt(3) - '0';
        int answer = d == 9 ? NONE : d;
        if (s.matches("1.00")) {
            return step(b) != UNKNOWN;
        }
        if (s.matches("2.00")) {
            return turn(b) != UNKNOWN;
        }
        if (s.matches("3.0.")) {
            return weigh(b, d) >= 0;
        }
        if (s.matches("4.00")) {
            return add(b) != UNKNOWN;
        }
        if (s.matches("5.0.")) {
            return router(b) && (exitExists(d) || d == 9) && world.firstExit(b) == answer;
        }
        if (s.matches("6.0.")) {
            return router(b) && (exitExists(d) || d == 9) && leaves(b, 0) == answer;
        }
        return s.equals("7000") && run(0, 0) != 0 || s.equals("7001") && run(0, 0) == 0;
    }

    int see(int router, int exit, int was) {
        if (!router(router) || !exitExists(exit)) {
            return UNKNOWN;
        }
        if (!within(was, 0, 1)) {
            return OUTSIDE;
        }
        if (sightings.size() == 6) {
            return FULL;
        }
        sightings.add(new Sighting(router, exit, was == 1));
        return sightings.size();
    }

    int unsee() {
        int had = sightings.size();
        sightings.clear();
        return had;
    }

    int which() {
        Set<Integer> found = new TreeSet<>();
        for (int down = 0; down < world.exits.size(); down++) {
            World w = world.copy();
            Set<Integer> up = membersOf((1 << w.exits.size()) - 1);
            up.remove(down);
            w.onlyUp(up);
            boolean rested = w.rests();
            boolean all = true;
            for (Sighting s : sightings) {
                boolean exists = router(s.router()) && exitExists(s.exit());
                boolean so = exists && rested && w.firstExit(s.router()) == s.exit();
                all &= so == s.was();
            }
            if (all) {
                found.add(down);
            }
        }
        return setOf(found);
    }

    private int value(Set<Integer> up) {
        World w = world.copy();
        w.onlyUp(up);
        if (!w.rests()) {
            return 0;
        }
        Set<Integer> different = new HashSet<>();
        for (int i = 0; i < w.n; i++) {
            different.add(w.firstExit(i));
        }
        different.remove(NONE);
        return different.size();
    }

    private static int fraction(long top, long bottom, boolean upper) {
        long divisor = bottom;
        while (top % divisor != 0 || bottom % divisor != 0) {
            divisor--;
        }
        return (int) ((upper ? top : bottom) / divisor);
    }

    int share(int exit, boolean upper) {
        if (!exitExists(exit)) {
            return UNKNOWN;
        }
        List<List<Integer>> orders = permutations(world.exits.size());
        Map<Set<Integer>, Integer> values = new HashMap<>();
        long sum = 0;
        for (List<Integer> order : orders) {
            Set<Integer> before = new TreeSet<>(order.subList(0, order.indexOf(exit)));
            Set<Integer> after = new TreeSet<>(before);
            after.add(exit);
            for (Set<Integer> set : List.of(before, after)) {
                if (!values.containsKey(set)) {
                    values.put(set, value(set));
                }
            }
            sum += values.get(after) - values.get(before);
        }
        return fraction(sum, orders.size(), upper);
    }

    int lost(int x, boolean upper) {
        if (!within(x, 0, 10)) {
            return OUTSIDE;
        }
        int n = world.exits.size();
        long sum = 0;
        for (int set = 0; set < 1 << n; set++) {
            World w = world.copy();
            w.onlyUp(membersOf(set));
            int up = Integer.bitCount(set);
            sum += w.rests() ? Math.round(Math.pow(x, n - up) * Math.pow(10 - x, up)) : 0;
        }
        return fraction(sum, Math.round(Math.pow(10, n)), upper);
    }

    long seed(long v) {
        long previous = random;
        random = v;
        return previous;
    }

    int drawn(int m) {
        if (!within(m, 1, 20)) {
            return OUTSIDE;
        }
        World w = world.copy();
        int sum = 0;
        for (int k = 0; k < m; k++) {
            random = random * 6364136223846793005L + 1442695040888963407L;
            String bits = "0".repeat(Long.numberOfLeadingZeros(random)) + (random == 0 ? "" : Long.toBinaryString(random));
            int router = (int) (Long.parseLong(bits.substring(0, 31), 2) % w.n);
            w.step(router);
            sum += w.firstExit(router) == NONE ? 0 : w.firstExit(router) + 1;
        }
        return sum;
    }

    int keep(int slot) {
        if (!within(slot, 0, 1)) {
            return UNKNOWN;
        }
        slots[slot] = world.copy();
        return world.n;
    }

    int again(int slot) {
        if (!within(slot, 0, 1)) {
            return UNKNOWN;
        }
        if (slots[slot] == null) {
            return STATE;
        }
        world = slots[slot].copy();
        past.clear();
        return world.n;
    }

    int count(int what) {
        List<Integer> up = new ArrayList<>();
        for (int e = 0; e < world.exits.size(); e++) {
            if (world.exits.get(e).up()) {
                up.add(e);
            }
        }
        List<Integer> chosen = new ArrayList<>();
        for (int i = 0; i < world.n; i++) {
            if (!world.choices.get(i).isEmpty()) {
                chosen.add(i);
            }
        }
        int[] figures = {text.length(), world.n, world.links.size(), world.sessions.size(), world.exits.size(),
            setOf(up), setOf(world.extended), world.mode, setOf(chosen), past.size(), sightings.size()};
        return within(what, 0, 10) ? figures[what] : OUTSIDE;
    }
}
