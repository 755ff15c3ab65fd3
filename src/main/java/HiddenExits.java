import java.util.Arrays;

/**
 * A simulation of routers in one domain that exchange routes to exits. The document tells what each method
 * promises; this file is in the part of Java 17 that LANGUAGE.md leaves, so no method throws, and no method
 * makes an object: all rows are made once, with the object, and used again.
 */
public final class HiddenExits {
    public static final int UNKNOWN = -1, OUTSIDE = -2, STATE = -3, FULL = -4, NONE = -9;

    private static final int MAX_ROUTERS = 5;
    private static final int MAX_EXITS = 4;
    private static final int MAX_NEIGHBOUR = 2;
    private static final int MAX_PATH = 5;
    private static final int MAX_COST = 9;
    private static final int MAX_WEIGHT = 5;
    private static final int MAX_MODE = 2;
    private static final int MAX_SIGNS = 90;
    private static final int MAX_ACTS = 14;
    private static final int MAX_SIGHTINGS = 6;
    private static final int MAX_ROUNDS = 60;
    private static final int MAX_PASSES = 30;
    private static final int MAX_ORDERS = 120;
    private static final int MAX_HOPS = 6;
    private static final int MAX_STATEMENTS = 4;
    private static final int MAX_DRAWS = 20;
    private static final int SLOTS = 2;

    private static final int PAIRS = MAX_ROUTERS * MAX_ROUTERS;
    private static final int EXIT_SETS = 1 << MAX_EXITS;
    private static final int ALL_ROUTERS = (1 << MAX_ROUTERS) - 1;

    private static final int NO_EXIT = -1;
    private static final int NO_FAULT = -1;
    private static final int NO_DIGIT = -1;
    /** Stands for an exit that has not been picked yet. */
    private static final int UNSET = -2;
    /** More than any path can cost, and small enough that two of them can be added. */
    private static final int FAR = 1000;
    /** The digit that stands for "no exit" in a rest and in a statement. */
    private static final int DIGIT_NONE = 9;

    private static final int PEERS = 1;
    private static final int HAS_CLIENT = 2;
    private static final int IS_CLIENT = 3;

    private static final int RESTS = 0;
    private static final int CYCLES = 1;
    private static final int GOES_ON = 2;

    /*
     * A route is an int, so that two routes are compared and copied at once: bits 0 to 4 are its marks, 5 to 7
     * the router from which it was heard, 8 and 9 its exit, and bit 10 is set; no route is 0. The choices of a
     * router are one int, too: the first route, and the second route above it.
     */
    private static final int MARKS = 31;
    private static final int FROM_SHIFT = 5;
    private static final int FROM_MASK = 7;
    private static final int EXIT_SHIFT = 8;
    private static final int EXIT_MASK = 3;
    private static final int IS_ROUTE = 1 << 10;
    private static final int SECOND_SHIFT = 11;
    private static final int ROUTE_MASK = (1 << SECOND_SHIFT) - 1;

    private static final long MULTIPLIER = 6364136223846793005L;
    private static final long INCREMENT = 1442695040888963407L;
    private static final int DRAW_SHIFT = 33;

    /** The powers of 10000, by which the statements of a row are cut apart. */
    private static final long[] UNITS = {1L, 10000L, 100000000L, 1000000000000L, 10000000000000000L};
    private static final int[] FACTORIALS = {1, 1, 2, 6, 24};

    private final Script script;
    private final Plan plan;
    private final Simulator live;
    /** Queries simulate here, so that the live domain stays as it is. */
    private final Simulator trial;
    private final Course course;
    private final Passes passes;
    private final Past past;
    private final State[] slots;
    private final boolean[] filled;
    private final Sightings sightings;
    private long random;

    public HiddenExits() {
        script = new Script();
        plan = new Plan();
        live = new Simulator(plan);
        trial = new Simulator(plan);
        course = new Course();
        passes = new Passes();
        past = new Past();
        slots = new State[SLOTS];
        for (int slot = 0; slot < SLOTS; slot++) {
            slots[slot] = new State();
        }
        filled = new boolean[SLOTS];
        sightings = new Sightings();
        random = 0L;
    }

    // ---- the domain

    public int write(int letter) {
        if (letter < 0 || letter > 255) {
            return OUTSIDE;
        }
        if (script.length >= MAX_SIGNS) {
            return FULL;
        }
        script.signs[script.length] = (char) letter;
        script.length++;
        return script.length;
    }

    public int wipe() {
        int had = script.length;
        script.length = 0;
        return had;
    }

    public int fault() {
        int position = script.scan();
        return position == NO_FAULT ? NONE : position;
    }

    public int domain() {
        if (script.scan() != NO_FAULT) {
            return STATE;
        }
        plan.read(script);
        live.begin(script);
        past.held = 0;
        for (int slot = 0; slot < SLOTS; slot++) {
            filled[slot] = false;
        }
        return script.parts;
    }

    public int link(int i, int j, int what) {
        if (!plan.hasRouter(i) || !plan.hasRouter(j)) {
            return UNKNOWN;
        }
        if (what < 0 || what > 1) {
            return OUTSIDE;
        }
        if (what == 0) {
            return live.state.costOf(i, j);
        }
        int distance = live.distance(i, j);
        return distance < FAR ? distance : NONE;
    }

    public int session(int i, int j) {
        if (!plan.hasRouter(i) || !plan.hasRouter(j)) {
            return UNKNOWN;
        }
        return plan.sessionOf(i, j);
    }

    public int exit(int exit, int what) {
        if (!plan.hasExit(exit)) {
            return UNKNOWN;
        }
        switch (what) {
            case 0:
                return plan.place[exit];
            case 1:
                return plan.neighbour[exit];
            case 2:
                return plan.path[exit];
            case 3:
                return live.state.weight[exit];
            case 4:
                return live.state.up >> exit & 1;
            default:
                return OUTSIDE;
        }
    }

    // ---- acts

    public int step(int router) {
        if (!plan.hasRouter(router)) {
            return UNKNOWN;
        }
        past.save(live.state);
        return live.stepOne(router) ? 1 : 0;
    }

    public int round() {
        past.save(live.state);
        return live.stepAll();
    }

    public int setLink(int i, int j, int c) {
        if (!plan.hasRouter(i) || !plan.hasRouter(j)) {
            return UNKNOWN;
        }
        if (i == j || c < 0 || c > MAX_COST) {
            return OUTSIDE;
        }
        past.save(live.state);
        int previous = live.state.costOf(i, j);
        live.changeCost(i, j, c);
        return previous;
    }

    public int turn(int exit) {
        if (!plan.hasExit(exit)) {
            return UNKNOWN;
        }
        past.save(live.state);
        live.state.flip(exit);
        return live.state.up >> exit & 1;
    }

    public int weigh(int exit, int v) {
        if (!plan.hasExit(exit)) {
            return UNKNOWN;
        }
        if (v < 0 || v > MAX_WEIGHT) {
            return OUTSIDE;
        }
        past.save(live.state);
        int previous = live.state.weight[exit];
        live.changeWeight(exit, v);
        return previous;
    }

    public int add(int router) {
        if (!plan.hasRouter(router)) {
            return UNKNOWN;
        }
        past.save(live.state);
        live.state.extend(router);
        return live.state.extended >> router & 1;
    }

    public int setMode(int v) {
        if (v < 0 || v > MAX_MODE) {
            return OUTSIDE;
        }
        past.save(live.state);
        int previous = live.state.mode;
        live.changeMode(v);
        return previous;
    }

    public int undo() {
        if (past.held == 0) {
            return STATE;
        }
        live.restore(past.latest());
        return past.held;
    }

    // ---- choices and packets

    public int choice(int router, int second, int what) {
        if (!plan.hasRouter(router)) {
            return UNKNOWN;
        }
        if (second < 0 || second > 1 || what < 0 || what > 2) {
            return OUTSIDE;
        }
        int route = second == 0 ? live.state.firstRoute(router) : live.state.secondRoute(router);
        if (route == 0) {
            return NONE;
        }
        if (what == 0) {
            return exitOf(route);
        }
        return what == 1 ? fromOf(route) : route & MARKS;
    }

    public int heard(int router) {
        if (!plan.hasRouter(router)) {
            return UNKNOWN;
        }
        return live.listen(router);
    }

    public int tells(int router, int other) {
        if (!plan.hasRouter(router) || !plan.hasRouter(other)) {
            return UNKNOWN;
        }
        int route = live.state.firstRoute(router);
        return route != 0 && (plan.toldBy(router, other) >> fromOf(route) & 1) == 1 ? 1 : 0;
    }

    public int mesh(int router) {
        if (!plan.hasRouter(router)) {
            return UNKNOWN;
        }
        int exit = live.pick(router, live.near[router] & live.state.up);
        return exit == NO_EXIT ? NONE : exit;
    }

    public int leaves(int router, int what) {
        if (!plan.hasRouter(router)) {
            return UNKNOWN;
        }
        if (what < 0 || what > 1) {
            return OUTSIDE;
        }
        int exit = live.send(router);
        if (exit == NO_EXIT) {
            return NONE;
        }
        return what == 0 ? exit : live.hops;
    }

    // ---- runs

    public int run(int none, int what) {
        if (none < 0 || none > 1 || what < 0 || what > 3) {
            return OUTSIDE;
        }
        trial.copyFrom(live);
        if (none == 1) {
            trial.state.forgetChoices();
        }
        course.follow(trial);
        switch (what) {
            case 0:
                return course.outcome;
            case 1:
                return course.outcome == GOES_ON ? NONE : course.entry;
            case 2:
                return course.outcome == GOES_ON ? NONE : course.period;
            default:
                return course.outcome == RESTS ? trial.restNumber() : NONE;
        }
    }

    public int orders(int what) {
        if (what < 0 || what > 2) {
            return OUTSIDE;
        }
        trial.copyFrom(live);
        passes.tryAll(trial);
        if (what == 0) {
            return passes.resting;
        }
        if (what == 1) {
            return passes.different;
        }
        return passes.different == 0 ? NONE : passes.lowest;
    }

    public int healed(int what) {
        if (what < 0 || what > 1) {
            return OUTSIDE;
        }
        trial.copyFrom(live);
        for (int size = 0; size <= plan.routers; size++) {
            for (int set = 0; set < 1 << plan.routers; set++) {
                trial.state.extended = set;
                if (Integer.bitCount(set) == size && restsAnew()) {
                    return what == 0 ? size : set;
                }
            }
        }
        return NONE;
    }

    public int judge(int n, long row) {
        if (n < 1 || n > MAX_STATEMENTS || row < 0 || row >= UNITS[n]) {
            return OUTSIDE;
        }
        trial.copyFrom(live);
        for (int index = 0; index < n; index++) {
            long unit = UNITS[n - 1 - index];
            if (unit < 1 || !holds((int) (row / unit % 10000))) {
                return index;
            }
        }
        return NONE;
    }

    // ---- observations

    public int see(int router, int exit, int was) {
        if (!plan.hasRouter(router) || !plan.hasExit(exit)) {
            return UNKNOWN;
        }
        if (was < 0 || was > 1) {
            return OUTSIDE;
        }
        if (sightings.held >= MAX_SIGHTINGS) {
            return FULL;
        }
        sightings.note(router, exit, was);
        return sightings.held;
    }

    public int unsee() {
        int had = sightings.held;
        sightings.held = 0;
        return had;
    }

    public int which() {
        int found = 0;
        int all = (1 << plan.exits) - 1;
        trial.copyFrom(live);
        for (int exit = 0; exit < plan.exits; exit++) {
            trial.state.up = all & ~(1 << exit);
            if (sightings.agree(trial, restsAnew())) {
                found |= 1 << exit;
            }
        }
        return found;
    }

    // ---- Shapley values, probabilities, simulation

    public int share(int exit, boolean upper) {
        if (!plan.hasExit(exit)) {
            return UNKNOWN;
        }
        trial.copyFrom(live);
        int sum = 0;
        for (int set = 0; set < 1 << plan.exits; set++) {
            trial.state.up = set;
            int value = restsAnew() ? Integer.bitCount(trial.state.chosenExits()) : 0;
            sum += value * gainFactor(set, exit);
        }
        return part(sum, factorial(plan.exits), upper);
    }

    public int lost(int x, boolean upper) {
        if (x < 0 || x > 10) {
            return OUTSIDE;
        }
        trial.copyFrom(live);
        int sum = 0;
        int all = 1;
        for (int exit = 0; exit < plan.exits; exit++) {
            all *= 10;
        }
        for (int set = 0; set < 1 << plan.exits; set++) {
            trial.state.up = set;
            int chance = chanceOf(set, x);
            if (chance != 0 && restsAnew()) {
                sum += chance;
            }
        }
        return part(sum, all, upper);
    }

    public long seed(long v) {
        long previous = random;
        random = v;
        return previous;
    }

    public int drawn(int m) {
        if (m < 1 || m > MAX_DRAWS) {
            return OUTSIDE;
        }
        trial.copyFrom(live);
        int sum = 0;
        for (int draw = 0; draw < m; draw++) {
            random = random * MULTIPLIER + INCREMENT;
            int router = plan.routers > 0 ? (int) (random >>> DRAW_SHIFT) % plan.routers : 0;
            trial.stepOne(router);
            sum += trial.state.firstExit(router) + 1;
        }
        return sum;
    }

    // ---- slots

    public int keep(int slot) {
        if (slot < 0 || slot >= SLOTS) {
            return UNKNOWN;
        }
        slots[slot].copyFrom(live.state);
        filled[slot] = true;
        return plan.routers;
    }

    public int again(int slot) {
        if (slot < 0 || slot >= SLOTS) {
            return UNKNOWN;
        }
        if (!filled[slot]) {
            return STATE;
        }
        live.restore(slots[slot]);
        past.held = 0;
        return plan.routers;
    }

    public int count(int what) {
        switch (what) {
            case 0:
                return script.length;
            case 1:
                return plan.routers;
            case 2:
                return live.state.linkCount();
            case 3:
                return plan.sessionCount();
            case 4:
                return plan.exits;
            case 5:
                return live.state.up;
            case 6:
                return live.state.extended;
            case 7:
                return live.state.mode;
            case 8:
                return live.state.chosenSet();
            case 9:
                return past.held;
            case 10:
                return sightings.held;
            default:
                return OUTSIDE;
        }
    }

    // ---- what the methods above share

    private static int exitOf(int route) {
        return route >> EXIT_SHIFT & EXIT_MASK;
    }

    private static int fromOf(int route) {
        return route >> FROM_SHIFT & FROM_MASK;
    }

    private static int routeOf(int exit, int from, int marks) {
        return IS_ROUTE | exit << EXIT_SHIFT | from << FROM_SHIFT | marks;
    }

    private static int factorial(int n) {
        return n < 0 || n >= FACTORIALS.length ? 1 : FACTORIALS[n];
    }

    private static int commonDivisor(int a, int b) {
        int greater = a;
        int smaller = b;
        for (int turns = 0; turns < 100 && smaller != 0; turns++) {
            int rest = greater % smaller;
            greater = smaller;
            smaller = rest;
        }
        return greater;
    }

    /** The numerator or the denominator of top / bottom in lowest terms; bottom is positive. */
    private static int part(int top, int bottom, boolean upper) {
        int divisor = commonDivisor(Math.abs(top), bottom);
        if (divisor <= 0) {
            return upper ? top : bottom;
        }
        return upper ? top / divisor : bottom / divisor;
    }

    /** Whether the trial comes to rest when it begins with no choices. */
    private boolean restsAnew() {
        trial.state.forgetChoices();
        course.follow(trial);
        return course.outcome == RESTS;
    }

    /**
     * In how many orders of the exits the value of a set is what an exit reaches by coming up, or, counted
     * negative, what it finds before.
     */
    private int gainFactor(int set, int exit) {
        int size = Integer.bitCount(set);
        if ((set >> exit & 1) == 1) {
            return factorial(size - 1) * factorial(plan.exits - size);
        }
        return -factorial(size) * factorial(plan.exits - 1 - size);
    }

    /** The chance, in parts of 10 to the power of the number of exits, that exactly the exits of a set are up. */
    private int chanceOf(int set, int x) {
        int chance = 1;
        for (int exit = 0; exit < plan.exits; exit++) {
            chance *= (set >> exit & 1) == 1 ? 10 - x : x;
        }
        return chance;
    }

    private boolean holds(int statement) {
        int kind = statement / 1000;
        int about = statement / 100 % 10;
        int third = statement / 10 % 10;
        int last = statement % 10;
        if (third != 0) {
            return false;
        }
        switch (kind) {
            case 1:
            case 2:
            case 4:
                return last == 0 && happens(kind, about);
            case 3:
                if (!plan.hasExit(about) || last > MAX_WEIGHT) {
                    return false;
                }
                trial.changeWeight(about, last);
                return true;
            case 5:
                return canBeAnswer(about, last) && isExit(trial.state.firstExit(about), last);
            case 6:
                return canBeAnswer(about, last) && isExit(trial.send(about), last);
            case 7:
                if (about != 0 || last > 1) {
                    return false;
                }
                course.follow(trial);
                // The run is only looked at: later statements go on with the choices that it began with.
                course.takeBack(trial);
                return (course.outcome == RESTS) == (last == 1);
            default:
                return false;
        }
    }

    private boolean happens(int kind, int about) {
        if (kind == 2 ? !plan.hasExit(about) : !plan.hasRouter(about)) {
            return false;
        }
        if (kind == 1) {
            trial.stepOne(about);
        } else if (kind == 2) {
            trial.state.flip(about);
        } else {
            trial.state.extend(about);
        }
        return true;
    }

    private boolean canBeAnswer(int router, int digit) {
        return plan.hasRouter(router) && (plan.hasExit(digit) || digit == DIGIT_NONE);
    }

    private static boolean isExit(int exit, int digit) {
        return exit == (digit == DIGIT_NONE ? NO_EXIT : digit);
    }

    /** The text, and what the latest scan of it has found. */
    private static final class Script {
        final char[] signs = new char[MAX_SIGNS];
        int length;
        int routers;
        int exits;
        int parts;
        final int[] cost = new int[PAIRS];
        final int[] session = new int[PAIRS];
        final int[] place = new int[MAX_EXITS];
        final int[] neighbour = new int[MAX_EXITS];
        final int[] path = new int[MAX_EXITS];
        final int[] weight = new int[MAX_EXITS];
        /** Where the scan is; it stops before the first character that can't stand there. */
        private int at;

        int scan() {
            at = 0;
            routers = 0;
            exits = 0;
            parts = 0;
            Arrays.fill(cost, 0);
            Arrays.fill(session, 0);
            if (!scanHead()) {
                return at;
            }
            for (int turns = 0; turns < MAX_SIGNS && at < length; turns++) {
                if (!scanPart()) {
                    return at;
                }
                parts++;
            }
            return NO_FAULT;
        }

        private boolean scanHead() {
            if (sign() != 'D') {
                return false;
            }
            at++;
            int number = digit(1, MAX_ROUTERS);
            if (number == NO_DIGIT) {
                return false;
            }
            routers = number;
            return true;
        }

        private boolean scanPart() {
            switch (sign()) {
                case 'l':
                    return scanLink();
                case 'p':
                    return scanSession(PEERS, PEERS);
                case 'c':
                    return scanSession(HAS_CLIENT, IS_CLIENT);
                case 'e':
                    return scanExit();
                default:
                    return false;
            }
        }

        private boolean scanLink() {
            int pair = scanPair(cost);
            if (pair == NO_DIGIT) {
                return false;
            }
            int c = digit(1, MAX_COST);
            if (c == NO_DIGIT) {
                return false;
            }
            setPair(cost, pair, c, c);
            return true;
        }

        private boolean scanSession(int ofFirst, int ofSecond) {
            int pair = scanPair(session);
            if (pair == NO_DIGIT) {
                return false;
            }
            setPair(session, pair, ofFirst, ofSecond);
            return true;
        }

        private boolean scanExit() {
            if (exits >= MAX_EXITS) {
                return false;
            }
            at++;
            int router = digit(0, routers - 1);
            int next = router == NO_DIGIT ? NO_DIGIT : digit(0, MAX_NEIGHBOUR);
            int steps = next == NO_DIGIT ? NO_DIGIT : digit(1, MAX_PATH);
            int heaviness = steps == NO_DIGIT ? NO_DIGIT : digit(0, MAX_WEIGHT);
            if (heaviness == NO_DIGIT) {
                return false;
            }
            place[exits] = router;
            neighbour[exits] = next;
            path[exits] = steps;
            weight[exits] = heaviness;
            exits++;
            return true;
        }

        /** Reads a letter and two routers that have nothing in the table; answers the place of the pair in it. */
        private int scanPair(int[] table) {
            if (!anyFree(table)) {
                return NO_DIGIT;
            }
            at++;
            int i = digit(0, routers - 1);
            if (i == NO_DIGIT) {
                return NO_DIGIT;
            }
            if (!hasFree(table, i)) {
                at--;
                return NO_DIGIT;
            }
            int j = digit(0, routers - 1);
            if (j == NO_DIGIT) {
                return NO_DIGIT;
            }
            if (!isFree(table, i, j)) {
                at--;
                return NO_DIGIT;
            }
            return i * MAX_ROUTERS + j;
        }

        private static void setPair(int[] table, int pair, int ofFirst, int ofSecond) {
            int turned = pair % MAX_ROUTERS * MAX_ROUTERS + pair / MAX_ROUTERS;
            if (pair >= 0 && pair < table.length && turned < table.length) {
                table[pair] = ofFirst;
                table[turned] = ofSecond;
            }
        }

        private boolean anyFree(int[] table) {
            for (int i = 0; i < routers; i++) {
                if (hasFree(table, i)) {
                    return true;
                }
            }
            return false;
        }

        private boolean hasFree(int[] table, int i) {
            for (int j = 0; j < routers; j++) {
                if (isFree(table, i, j)) {
                    return true;
                }
            }
            return false;
        }

        private static boolean isFree(int[] table, int i, int j) {
            int pair = i * MAX_ROUTERS + j;
            return i != j && pair >= 0 && pair < table.length && table[pair] == 0;
        }

        /** The character where the scan is; -1 at the end of the text. */
        private int sign() {
            return at >= 0 && at < length && at < MAX_SIGNS ? signs[at] : -1;
        }

        private int digit(int low, int high) {
            int value = sign() - '0';
            if (value < low || value > high) {
                return NO_DIGIT;
            }
            at++;
            return value;
        }
    }

    /** What no act changes: the routers, their sessions, and where the exits are and lead. */
    private static final class Plan {
        int routers = 1;
        int exits;
        final int[] session = new int[PAIRS];
        /** For each router and other router the set of those from whom it tells the other one what it has. */
        final int[] told = new int[PAIRS];
        final int[] place = new int[MAX_EXITS];
        final int[] neighbour = new int[MAX_EXITS];
        final int[] path = new int[MAX_EXITS];
        /** For each router the set of the exits at it. */
        final int[] home = new int[MAX_ROUTERS];

        void read(Script script) {
            routers = script.routers;
            exits = script.exits;
            System.arraycopy(script.session, 0, session, 0, PAIRS);
            System.arraycopy(script.place, 0, place, 0, MAX_EXITS);
            System.arraycopy(script.neighbour, 0, neighbour, 0, MAX_EXITS);
            System.arraycopy(script.path, 0, path, 0, MAX_EXITS);
            for (int router = 0; router < MAX_ROUTERS; router++) {
                readTold(router);
                home[router] = 0;
                for (int exit = 0; exit < exits && exit < MAX_EXITS; exit++) {
                    home[router] |= place[exit] == router ? 1 << exit : 0;
                }
            }
        }

        private void readTold(int router) {
            int clients = 0;
            for (int other = 0; other < MAX_ROUTERS; other++) {
                clients |= sessionOf(router, other) == HAS_CLIENT ? 1 << other : 0;
            }
            for (int other = 0; other < MAX_ROUTERS; other++) {
                int kind = sessionOf(router, other);
                int sources = kind == HAS_CLIENT ? ALL_ROUTERS : clients | 1 << router;
                told[router * MAX_ROUTERS + other] = kind == 0 ? 0 : sources & ~(1 << other);
            }
        }

        boolean hasRouter(int router) {
            return router >= 0 && router < routers && router < MAX_ROUTERS;
        }

        boolean hasExit(int exit) {
            return exit >= 0 && exit < exits && exit < MAX_EXITS;
        }

        int sessionOf(int i, int j) {
            int pair = i * MAX_ROUTERS + j;
            return pair >= 0 && pair < PAIRS ? session[pair] : 0;
        }

        int toldBy(int router, int other) {
            int pair = router * MAX_ROUTERS + other;
            return pair >= 0 && pair < PAIRS ? told[pair] : 0;
        }

        int exitsTo(int next) {
            int set = 0;
            for (int exit = 0; exit < exits && exit < MAX_EXITS; exit++) {
                set |= neighbour[exit] == next ? 1 << exit : 0;
            }
            return set;
        }

        int sessionCount() {
            int ends = 0;
            for (int pair = 0; pair < PAIRS; pair++) {
                ends += session[pair] != 0 ? 1 : 0;
            }
            return ends / 2;
        }
    }

    /** What acts change, and what slots and undone acts bring back. */
    private static final class State {
        final int[] cost = new int[PAIRS];
        final int[] weight = new int[MAX_EXITS];
        final int[] choices = new int[MAX_ROUTERS];
        int up;
        int extended;
        int mode;

        void copyFrom(State other) {
            System.arraycopy(other.cost, 0, cost, 0, PAIRS);
            System.arraycopy(other.weight, 0, weight, 0, MAX_EXITS);
            System.arraycopy(other.choices, 0, choices, 0, MAX_ROUTERS);
            up = other.up;
            extended = other.extended;
            mode = other.mode;
        }

        void read(Script script) {
            System.arraycopy(script.cost, 0, cost, 0, PAIRS);
            System.arraycopy(script.weight, 0, weight, 0, MAX_EXITS);
            forgetChoices();
            up = (1 << script.exits) - 1;
            extended = 0;
            mode = 0;
        }

        void forgetChoices() {
            Arrays.fill(choices, 0);
        }

        int costOf(int i, int j) {
            int pair = i * MAX_ROUTERS + j;
            return pair >= 0 && pair < PAIRS ? cost[pair] : 0;
        }

        void flip(int exit) {
            up ^= 1 << exit;
        }

        void extend(int router) {
            extended ^= 1 << router;
            if ((extended >> router & 1) == 0 && router >= 0 && router < MAX_ROUTERS) {
                choices[router] &= ROUTE_MASK;
            }
        }

        int firstRoute(int router) {
            return router >= 0 && router < MAX_ROUTERS ? choices[router] & ROUTE_MASK : 0;
        }

        int secondRoute(int router) {
            return router >= 0 && router < MAX_ROUTERS ? choices[router] >> SECOND_SHIFT & ROUTE_MASK : 0;
        }

        int firstExit(int router) {
            int route = firstRoute(router);
            return route == 0 ? NO_EXIT : exitOf(route);
        }

        int linkCount() {
            int ends = 0;
            for (int pair = 0; pair < PAIRS; pair++) {
                ends += cost[pair] > 0 ? 1 : 0;
            }
            return ends / 2;
        }

        int chosenSet() {
            int set = 0;
            for (int router = 0; router < MAX_ROUTERS; router++) {
                set |= choices[router] != 0 ? 1 << router : 0;
            }
            return set;
        }

        int chosenExits() {
            int set = 0;
            for (int router = 0; router < MAX_ROUTERS; router++) {
                int exit = firstExit(router);
                set |= exit == NO_EXIT ? 0 : 1 << exit;
            }
            return set;
        }
    }

    /** A state that routers can make steps in, with what follows from it. */
    private static final class Simulator {
        final Plan plan;
        final State state = new State();
        /** For each router the set of the exits, up or down, to whose routers there is a distance. */
        final int[] near = new int[MAX_ROUTERS];
        /** Over how many links the packet went that was sent last. */
        int hops;
        private final int[] distances = new int[PAIRS];
        /** For each router and set of exits the exit that it takes of them, as far as it has been asked for. */
        private final int[] picks = new int[MAX_ROUTERS * EXIT_SETS];
        private final int[] keys = new int[MAX_EXITS];
        private final int[] offers = new int[MAX_EXITS];
        private final int[] next = new int[MAX_ROUTERS];

        Simulator(Plan plan) {
            this.plan = plan;
            measure();
            forgetPicks();
        }

        void begin(Script script) {
            state.read(script);
            measure();
            forgetPicks();
        }

        void restore(State earlier) {
            state.copyFrom(earlier);
            measure();
            forgetPicks();
        }

        void copyFrom(Simulator other) {
            state.copyFrom(other.state);
            System.arraycopy(other.near, 0, near, 0, MAX_ROUTERS);
            System.arraycopy(other.distances, 0, distances, 0, PAIRS);
            System.arraycopy(other.picks, 0, picks, 0, picks.length);
        }

        void changeCost(int i, int j, int c) {
            int pair = i * MAX_ROUTERS + j;
            int turned = j * MAX_ROUTERS + i;
            if (pair >= 0 && pair < PAIRS && turned >= 0 && turned < PAIRS) {
                state.cost[pair] = c;
                state.cost[turned] = c;
            }
            measure();
            forgetPicks();
        }

        void changeWeight(int exit, int v) {
            if (exit >= 0 && exit < MAX_EXITS) {
                state.weight[exit] = v;
            }
            forgetPicks();
        }

        void changeMode(int v) {
            state.mode = v;
            forgetPicks();
        }

        private void forgetPicks() {
            Arrays.fill(picks, UNSET);
        }

        private void measure() {
            for (int pair = 0; pair < PAIRS; pair++) {
                int direct = state.cost[pair] > 0 ? state.cost[pair] : FAR;
                distances[pair] = pair / MAX_ROUTERS == pair % MAX_ROUTERS ? 0 : direct;
            }
            for (int over = 0; over < MAX_ROUTERS; over++) {
                for (int i = 0; i < MAX_ROUTERS; i++) {
                    int toOver = distances[i * MAX_ROUTERS + over];
                    for (int j = 0; j < MAX_ROUTERS; j++) {
                        int sum = toOver + distances[over * MAX_ROUTERS + j];
                        int pair = i * MAX_ROUTERS + j;
                        distances[pair] = Math.min(distances[pair], sum);
                    }
                }
            }
            findNear();
        }

        private void findNear() {
            for (int router = 0; router < MAX_ROUTERS; router++) {
                near[router] = 0;
                for (int exit = 0; exit < plan.exits && exit < MAX_EXITS; exit++) {
                    near[router] |= distance(router, plan.place[exit]) < FAR ? 1 << exit : 0;
                }
            }
        }

        int distance(int i, int j) {
            int pair = i * MAX_ROUTERS + j;
            return pair >= 0 && pair < PAIRS ? distances[pair] : FAR;
        }

        boolean stepOne(int router) {
            if (!plan.hasRouter(router)) {
                return false;
            }
            int before = state.choices[router];
            state.choices[router] = decide(router);
            return state.choices[router] != before;
        }

        int stepAll() {
            int changed = 0;
            for (int router = 0; router < plan.routers && router < MAX_ROUTERS; router++) {
                next[router] = decide(router);
                changed += next[router] != state.choices[router] ? 1 : 0;
            }
            System.arraycopy(next, 0, state.choices, 0, Math.min(plan.routers, MAX_ROUTERS));
            return changed;
        }

        /** The choices that a router would have after a step. */
        private int decide(int router) {
            int set = listen(router);
            int first = pick(router, set);
            if (first < 0 || first >= MAX_EXITS) {
                return 0;
            }
            int chosen = offers[first];
            if ((state.extended >> router & 1) == 1) {
                int second = pick(router, set & ~(1 << first));
                chosen |= second >= 0 && second < MAX_EXITS ? offers[second] << SECOND_SHIFT : 0;
            }
            return chosen;
        }

        /** Puts the routes that a router considers into the offers; answers the set of their exits. */
        int listen(int router) {
            if (router < 0 || router >= MAX_ROUTERS) {
                return 0;
            }
            int own = plan.home[router] & state.up;
            for (int exit = 0; exit < MAX_EXITS; exit++) {
                offers[exit] = (own >> exit & 1) == 1 ? routeOf(exit, router, 0) : 0;
            }
            // Ascending, so that of routes with as many marks the one from the lowest router stays.
            int set = own;
            for (int from = 0; from < plan.routers && from < MAX_ROUTERS; from++) {
                int told = plan.toldBy(from, router);
                if (told != 0 && state.choices[from] != 0) {
                    set |= take(router, from, told, state.choices[from] & ROUTE_MASK);
                    set |= take(router, from, told, state.choices[from] >> SECOND_SHIFT);
                }
            }
            return set;
        }

        /** Lets a router hear a choice of another one, which may be none; answers the set of what it hears. */
        private int take(int router, int from, int told, int route) {
            int exit = route >> EXIT_SHIFT & EXIT_MASK;
            int marks = route & MARKS | 1 << from;
            if (route == 0 || (told >> (route >> FROM_SHIFT & FROM_MASK) & 1) == 0) {
                return 0;
            }
            if ((marks >> router & 1) == 1 || (near[router] >> exit & 1) == 0) {
                return 0;
            }
            int known = offers[exit];
            if (known == 0 || Integer.bitCount(marks) < Integer.bitCount(known & MARKS)) {
                offers[exit] = routeOf(exit, from, marks);
            }
            return 1 << exit;
        }

        /**
         * The exit of the first route, if the exits of the considered routes are this set. The set is enough:
         * a router hears a route to an exit of its own from nobody else, as it is one of that route's marks.
         */
        int pick(int router, int set) {
            int index = router * EXIT_SETS + set;
            if (router < 0 || router >= MAX_ROUTERS || index < 0 || index >= picks.length) {
                return NO_EXIT;
            }
            if (picks[index] == UNSET) {
                picks[index] = compare(router, set);
            }
            return picks[index];
        }

        private int compare(int router, int set) {
            int left = smallest(set, plan.path);
            if (state.mode == 0) {
                int lightest = 0;
                for (int neighbour = 0; neighbour <= MAX_NEIGHBOUR; neighbour++) {
                    lightest |= smallest(left & plan.exitsTo(neighbour), state.weight);
                }
                left = lightest;
            } else if (state.mode == 1) {
                left = smallest(left, state.weight);
            }
            int own = left & plan.home[router];
            for (int exit = 0; exit < MAX_EXITS; exit++) {
                keys[exit] = distance(router, plan.place[exit]);
            }
            left = smallest(own != 0 ? own : left, keys);
            for (int exit = 0; exit < MAX_EXITS; exit++) {
                if ((left >> exit & 1) == 1) {
                    return exit;
                }
            }
            return NO_EXIT;
        }

        /** Those exits of a set that have the smallest key. */
        private static int smallest(int set, int[] key) {
            int left = 0;
            int least = 0;
            for (int exit = 0; exit < MAX_EXITS && exit < key.length; exit++) {
                if ((set >> exit & 1) == 1) {
                    if (left == 0 || key[exit] < least) {
                        least = key[exit];
                        left = 0;
                    }
                    left |= key[exit] == least ? 1 << exit : 0;
                }
            }
            return left;
        }

        /** Sends a packet; answers the exit by which it leaves. */
        int send(int router) {
            int here = router;
            for (int gone = 0; gone < MAX_HOPS; gone++) {
                int exit = state.firstExit(here);
                if (exit < 0 || exit >= MAX_EXITS) {
                    return NO_EXIT;
                }
                int target = plan.place[exit];
                if (target == here) {
                    hops = gone;
                    return exit;
                }
                here = nextHop(here, target);
                if (here < 0) {
                    return NO_EXIT;
                }
            }
            return NO_EXIT;
        }

        /** The router to which a packet goes on; -1 if there is no distance to the target. */
        private int nextHop(int here, int target) {
            int best = -1;
            int least = FAR;
            for (int router = 0; router < plan.routers; router++) {
                int c = state.costOf(here, router);
                int sum = c + distance(router, target);
                if (c > 0 && sum < least) {
                    least = sum;
                    best = router;
                }
            }
            return best;
        }

        int restNumber() {
            int number = 0;
            for (int router = 0; router < plan.routers; router++) {
                int exit = state.firstExit(router);
                number = number * 10 + (exit == NO_EXIT ? DIGIT_NONE : exit);
            }
            return number;
        }
    }

    /** A run: it leaves the simulator with the choices of the last round. */
    private static final class Course {
        int outcome;
        /** After how many rounds the choices of the rest or the cycle are there first. */
        int entry;
        int period;
        private final int[] history = new int[(MAX_ROUNDS + 1) * MAX_ROUTERS];

        void follow(Simulator simulator) {
            outcome = GOES_ON;
            entry = 0;
            period = 0;
            record(simulator, 0);
            for (int round = 1; round <= MAX_ROUNDS; round++) {
                if (simulator.stepAll() == 0) {
                    outcome = RESTS;
                    entry = round - 1;
                    return;
                }
                record(simulator, round);
                int same = earlier(round);
                if (same >= 0) {
                    outcome = CYCLES;
                    entry = same;
                    period = round - same;
                    return;
                }
            }
        }

        /** Gives the simulator the choices back with which the run began. */
        void takeBack(Simulator simulator) {
            System.arraycopy(history, 0, simulator.state.choices, 0, MAX_ROUTERS);
        }

        private void record(Simulator simulator, int round) {
            if (round >= 0 && round <= MAX_ROUNDS) {
                System.arraycopy(simulator.state.choices, 0, history, round * MAX_ROUTERS, MAX_ROUTERS);
            }
        }

        private int earlier(int round) {
            for (int candidate = 0; candidate < round; candidate++) {
                if (alike(candidate, round)) {
                    return candidate;
                }
            }
            return -1;
        }

        private boolean alike(int one, int other) {
            if (one < 0 || one > MAX_ROUNDS || other < 0 || other > MAX_ROUNDS) {
                return false;
            }
            for (int router = 0; router < MAX_ROUTERS; router++) {
                if (history[one * MAX_ROUTERS + router] != history[other * MAX_ROUTERS + router]) {
                    return false;
                }
            }
            return true;
        }
    }

    /** The passes through all routers, by every order of them. */
    private static final class Passes {
        /** By how many orders the routers come to rest. */
        int resting;
        int different;
        int lowest;
        private final int[] order = new int[MAX_ROUTERS];
        private final int[] rests = new int[MAX_ORDERS];
        private final int[] marked = new int[MAX_ROUTERS];

        void tryAll(Simulator simulator) {
            int routers = Math.min(simulator.plan.routers, MAX_ROUTERS);
            resting = 0;
            different = 0;
            lowest = 0;
            for (int router = 0; router < MAX_ROUTERS; router++) {
                order[router] = router;
            }
            for (int tried = 0; tried < MAX_ORDERS; tried++) {
                if (restsInOrder(simulator, routers)) {
                    resting++;
                    note(simulator.restNumber());
                }
                if (!goToNextOrder(routers)) {
                    return;
                }
            }
        }

        private boolean restsInOrder(Simulator simulator, int routers) {
            simulator.state.forgetChoices();
            int markAt = 1;
            mark(simulator);
            for (int pass = 1; pass <= MAX_PASSES; pass++) {
                boolean changed = false;
                for (int index = 0; index < routers && index < MAX_ROUTERS; index++) {
                    changed |= simulator.stepOne(order[index]);
                }
                if (!changed) {
                    return true;
                }
                // Choices that come again come again for ever: the other passes need not be made.
                if (isMarked(simulator)) {
                    return false;
                }
                if (pass == markAt) {
                    mark(simulator);
                    markAt *= 2;
                }
            }
            return false;
        }

        private void mark(Simulator simulator) {
            System.arraycopy(simulator.state.choices, 0, marked, 0, MAX_ROUTERS);
        }

        private boolean isMarked(Simulator simulator) {
            for (int router = 0; router < MAX_ROUTERS; router++) {
                if (simulator.state.choices[router] != marked[router]) {
                    return false;
                }
            }
            return true;
        }

        private void note(int rest) {
            for (int index = 0; index < different; index++) {
                if (rests[index] == rest) {
                    return;
                }
            }
            lowest = different == 0 ? rest : Math.min(lowest, rest);
            if (different < MAX_ORDERS) {
                rests[different] = rest;
                different++;
            }
        }

        /** Makes the order the next one in the order of the alphabet; false if it was the last one. */
        private boolean goToNextOrder(int routers) {
            int pivot = routers - 2;
            while (pivot >= 0 && order[pivot] > order[pivot + 1]) {
                pivot--;
            }
            if (pivot < 0) {
                return false;
            }
            int other = routers - 1;
            while (other > pivot && order[other] < order[pivot]) {
                other--;
            }
            swap(pivot, other);
            // What follows the pivot descends; turned round, it ascends.
            int high = routers - 1;
            for (int low = pivot + 1; low < high; low++) {
                swap(low, high);
                high--;
            }
            return true;
        }

        private void swap(int one, int other) {
            if (one >= 0 && one < MAX_ROUTERS && other >= 0 && other < MAX_ROUTERS) {
                int router = order[one];
                order[one] = order[other];
                order[other] = router;
            }
        }
    }

    /** The states before the latest acts, in a ring. */
    private static final class Past {
        int held;
        private int next;
        private final State[] states;

        Past() {
            states = new State[MAX_ACTS];
            for (int index = 0; index < MAX_ACTS; index++) {
                states[index] = new State();
            }
        }

        void save(State state) {
            if (next < 0 || next >= MAX_ACTS) {
                next = 0;
            }
            states[next].copyFrom(state);
            next++;
            held = Math.min(held + 1, MAX_ACTS);
        }

        /** Hands out the state before the latest act, which is forgotten; there must be one. */
        State latest() {
            next = next > 0 && next <= MAX_ACTS ? next - 1 : MAX_ACTS - 1;
            held = Math.max(held - 1, 0);
            return states[next];
        }
    }

    /** The observations; they stay when the domain is replaced, so that their routers and exits may be gone. */
    private static final class Sightings {
        int held;
        private final int[] routers = new int[MAX_SIGHTINGS];
        private final int[] exits = new int[MAX_SIGHTINGS];
        private final int[] was = new int[MAX_SIGHTINGS];

        void note(int router, int exit, int wasSo) {
            if (held >= 0 && held < MAX_SIGHTINGS) {
                routers[held] = router;
                exits[held] = exit;
                was[held] = wasSo;
                held++;
            }
        }

        /** Whether all observations are true of a run that is over. */
        boolean agree(Simulator simulator, boolean rested) {
            for (int index = 0; index < held && index < MAX_SIGHTINGS; index++) {
                int router = routers[index];
                boolean exists = simulator.plan.hasRouter(router);
                boolean so = rested && exists && simulator.state.firstExit(router) == exits[index];
                if (so != (was[index] == 1)) {
                    return false;
                }
            }
            return true;
        }
    }
}
