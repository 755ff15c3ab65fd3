/** The edges of observations, Shapley values, probabilities and pseudo-random steps: promises 26 to 32. */
final class NumberEdges {
    private static final int[] FAR_OFF = {-1, 5, 6, 31, 32, Integer.MIN_VALUE, Integer.MAX_VALUE};

    private NumberEdges() {
    }

    static void check() {
        seeing();
        refusedSights();
        forgetting();
        inferring();
        gone();
        fractions();
        shares();
        losses();
        seeds();
        draws();
    }

    private static void seeing() {
        Edge.sentence(26, "Adds an observation: when exactly one exit was down, and all others were up, after a run beginning with no"
            + " choices that came to rest the first route of a router had a certain exit, or this was not so (also if the run did"
            + " not come to rest).");
        // Whichever exits are up now: with exit 0 down alone, router 0 has exit 1.
        HiddenExits x = Check.domain("D2l011c01e0010e1020e1030");
        x.see(0, 1, 1);
        x.turn(0);
        x.turn(1);
        x.turn(2);
        Edge.due("which()", x.which(), 1);
        // With exit 2 down there is no rest, so that no router had any exit; with another one down there is.
        HiddenExits y = Check.domain(Makers.DISAGREE + "e0050");
        y.see(2, 0, 0);
        Edge.due("which() of 'it was not'", y.which(), 5);
        y.unsee();
        y.see(2, 0, 1);
        Edge.due("which() of 'it was so'", y.which(), 2);
        Edge.sentence(26, "1: it was so; 0: it was not");
        HiddenExits z = Check.domain("D1e0010e0010");
        z.see(0, 0, 1);
        Edge.due("which()", z.which(), 2);
        z.unsee();
        z.see(0, 0, 0);
        Edge.due("which()", z.which(), 1);
        Edge.sentence(26, "Returns the number of observations;");
        z.unsee();
        for (int k = 1; k <= 6; k++) {
            Edge.due("see(0, 0, 1) as number " + k, z.see(0, 0, 1), k);
        }
    }

    private static void refusedSights() {
        Edge.sentence(26, "UNKNOWN if there is no such router or exit;");
        for (Edge.Maker maker : Makers.ALL) {
            int routers = maker.make().count(1);
            int exits = maker.make().count(4);
            for (int number : FAR_OFF) {
                Edge.refused(maker, "see(" + number + ", 0, 1)", x -> x.see(number, 0, 1), Check.UNKNOWN);
                Edge.refused(maker, "see(0, " + number + ", 1)", x -> x.see(0, number, 1), Check.UNKNOWN);
            }
            Edge.refused(maker, "see(" + routers + ", 0, 0)", x -> x.see(routers, 0, 0), Check.UNKNOWN);
            Edge.refused(maker, "see(0, " + exits + ", 0)", x -> x.see(0, exits, 0), Check.UNKNOWN);
            Edge.refused(maker, "see(0, " + exits + ", 2)", x -> x.see(0, exits, 2), Check.UNKNOWN);
        }
        Edge.due("see(2, 1, 0), the last ones that there are", Makers.BUSY.make().see(2, 1, 0), 4);
        Edge.sentence(26, "OUTSIDE if was is neither 0 nor 1;");
        int[] outside = {-1, 2, Integer.MIN_VALUE, Integer.MAX_VALUE};
        for (int was : outside) {
            Edge.refused(Makers.BUSY, "see(0, 0, " + was + ")", x -> x.see(0, 0, was), Check.OUTSIDE);
            Edge.refused(Makers.FULL, "see(0, 0, " + was + ") when full", x -> x.see(0, 0, was), Check.OUTSIDE);
        }
        Edge.sentence(26, "FULL if there are 6 observations.");
        Edge.refused(Makers.FULL, "see(0, 0, 1)", x -> x.see(0, 0, 1), Check.FULL);
        Edge.refused(Makers.FULL, "see(4, 3, 0)", x -> x.see(4, 3, 0), Check.FULL);
        Edge.due("count(10)", Makers.FULL.make().count(10), 6);
        HiddenExits five = Check.domain("D1e0010");
        for (int k = 0; k < 5; k++) {
            five.see(0, 0, 0);
        }
        Edge.due("see(0, 0, 0) as number 6", five.see(0, 0, 0), 6);
        Edge.due("see(0, 0, 0) as number 7", five.see(0, 0, 0), Check.FULL);
    }

    private static void forgetting() {
        Edge.sentence(27, "Removes all observations.");
        HiddenExits x = Makers.FULL.make();
        x.unsee();
        Edge.due("count(10)", x.count(10), 0);
        Edge.due("which()", x.which(), 15);
        Edge.due("see(0, 0, 0)", x.see(0, 0, 0), 1);
        Edge.sentence(27, "Returns how many there were.");
        Edge.due("unsee() of none", new HiddenExits().unsee(), 0);
        Edge.due("unsee() of 1", x.unsee(), 1);
        Edge.due("unsee() once more", x.unsee(), 0);
        Edge.due("unsee() of 6", Makers.FULL.make().unsee(), 6);
    }

    private static void inferring() {
        Edge.sentence(28, "Finds which exit may have been down: those with which, being down alone, all observations are true, with"
            + " the present links, weights, extended routers and mode.");
        HiddenExits x = Check.domain("D2l011c01e0010e1010e1111");
        x.see(0, 1, 1);
        Edge.due("which()", x.which(), 1);
        x.weigh(0, 1);
        Edge.due("which() with another weight", x.which(), 5);
        x.setMode(2);
        Edge.due("which() in another mode", x.which(), 1);
        x.setLink(0, 1, 0);
        Edge.due("which() with other links", x.which(), 0);
        HiddenExits y = Check.domain(Makers.DISAGREE + "e0050");
        y.see(2, 0, 1);
        Edge.due("which()", y.which(), 2);
        y.add(0);
        Edge.due("which() with an extended router", y.which(), 6);
        // The sixth one of the observations counts, too.
        HiddenExits z = Check.domain("D1e0010e0010e0010");
        for (int k = 0; k < 5; k++) {
            z.see(0, 2, 0);
        }
        Edge.due("which() of five", z.which(), 7);
        z.see(0, 1, 1);
        Edge.due("which() of six", z.which(), 1);
        Edge.sentence(28, "Returns the set of these exits.");
        Edge.due("which() without exits", new HiddenExits().which(), 0);
        String four = "D1e0010e0010e0010e0010";
        Edge.due("which() without observations", Check.domain(four).which(), 15);
        HiddenExits last = Check.domain("D4e0010e1010e2010e3010");
        last.see(3, 3, 0);
        Edge.due("which() of the last exit", last.which(), 8);
        last.see(0, 0, 0);
        Edge.due("which() of what can't be true at once", last.which(), 0);
    }

    private static void gone() {
        Edge.sentence(28, "(For a router or exit that does not exist any more, \"it was not\" is true.)");
        String large = "D5e4010e4010e4010e4010";
        int[][] sights = {{4, 0}, {0, 3}, {4, 3}};
        for (int[] sight : sights) {
            for (int was = 0; was <= 1; was++) {
                HiddenExits x = Check.domain(large);
                x.see(sight[0], sight[1], was);
                Check.read(x, "D4e0010e1010e2010");
                Edge.due("which() of router " + sight[0] + ", exit " + sight[1] + ", " + was, x.which(), was == 0 ? 7 : 0);
            }
        }
        // When there are such a router and exit again, it counts again.
        HiddenExits y = Check.domain(large);
        y.see(4, 0, 0);
        Check.read(y, "D1");
        Edge.due("which()", y.which(), 0);
        Check.read(y, "D5e4010e0010");
        Edge.due("which()", y.which(), 1);
    }

    private static void share(HiddenExits x, int exit, int top, int bottom) {
        Edge.due("share(" + exit + ", true)", x.share(exit, true), top);
        Edge.due("share(" + exit + ", false)", x.share(exit, false), bottom);
    }

    private static void lost(HiddenExits x, int down, int top, int bottom) {
        Edge.due("lost(" + down + ", true)", x.lost(down, true), top);
        Edge.due("lost(" + down + ", false)", x.lost(down, false), bottom);
    }

    private static void fractions() {
        Edge.sentence(0, "Fractions are given in lowest terms with a positive denominator (0 is 0/1), the numerator if the argument"
            + " upper is true, otherwise the denominator.");
        HiddenExits x = Check.domain(Makers.DISAGREE);
        share(x, 0, 0, 1);
        lost(x, 0, 0, 1);
        lost(x, 10, 1, 1);
        lost(x, 5, 3, 4);
        lost(x, 2, 9, 25);
        lost(x, 1, 19, 100);
        HiddenExits y = Check.domain(Makers.DISAGREE + "e0050");
        share(y, 0, -1, 6);
        share(y, 2, 1, 3);
        share(Check.domain("D1e0010"), 0, 1, 1);
    }

    private static void shares() {
        Edge.sentence(29, "Returns the Shapley value of an exit: the exits come up one by one, in each order with the same"
            + " probability, all others being down.");
        // Of n exits at the only router each has the same part.
        for (int exits = 1; exits <= 4; exits++) {
            HiddenExits x = Check.domain("D1" + "e0010".repeat(exits));
            x.turn(0);
            for (int exit = 0; exit < exits; exit++) {
                share(x, exit, 1, exits);
            }
        }
        HiddenExits three = Check.domain("D3e0010e1010e2010e2020");
        three.turn(0);
        three.turn(3);
        three.round();
        share(three, 0, 1, 1);
        share(three, 1, 1, 1);
        share(three, 2, 1, 2);
        share(three, 3, 1, 2);
        Edge.due("count(5)", three.count(5), 6);
        Edge.sentence(29, "The value of a set of exits is the number of different exits of the first routes of all routers after a run"
            + " beginning with no choices, if it comes to rest, otherwise 0.");
        // Exits 0 and 1 alone are worth 1 each, both together are worth 0, as they don't come to rest.
        share(Check.domain(Makers.DISAGREE), 0, 0, 1);
        share(Check.domain(Makers.DISAGREE), 1, 0, 1);
        // All routers have the same exit, if it is up: different exits are counted, not routers.
        share(Check.domain("D3l011l021c01c02e0010"), 0, 1, 1);
        // Second routes don't count.
        HiddenExits second = Check.domain("D1e0010e0020");
        second.add(0);
        share(second, 0, 1, 2);
        Edge.sentence(29, "The Shapley value is the mean increase of this value when the exit comes up; it may be negative.");
        HiddenExits y = Check.domain(Makers.DISAGREE + "e0050");
        share(y, 0, -1, 6);
        share(y, 1, -1, 6);
        share(y, 2, 1, 3);
        Edge.sentence(29, "true: the numerator; false: the denominator");
        Edge.due("share(0, true)", y.share(0, true), -1);
        Edge.due("share(0, false)", y.share(0, false), 6);
        Edge.sentence(29, "UNKNOWN if there is no such exit.");
        for (Edge.Maker maker : Makers.ALL) {
            int exits = maker.make().count(4);
            int[] unknown = {-1, exits, 5, 31, 32, Integer.MIN_VALUE, Integer.MAX_VALUE};
            for (int exit : unknown) {
                Edge.refused(maker, "share(" + exit + ", true)", x -> x.share(exit, true), Check.UNKNOWN);
                Edge.refused(maker, "share(" + exit + ", false)", x -> x.share(exit, false), Check.UNKNOWN);
            }
            if (exits > 0) {
                Edge.due("share(the last one, false) is no error", maker.make().share(exits - 1, false) > 0 ? 1 : 0, 1);
            }
        }
    }

    private static void losses() {
        Edge.sentence(30, "Returns the probability that a run beginning with no choices comes to rest, if each exit is down with the"
            + " probability x / 10 and otherwise up, independently of the others.");
        HiddenExits x = Check.domain(Makers.DISAGREE);
        // Only with both exits there is no rest: 1 - (1 - x / 10)^2.
        int[] tops = {0, 19, 9, 51, 16, 3, 21, 91, 24, 99, 1};
        int[] bottoms = {1, 100, 25, 100, 25, 4, 25, 100, 25, 100, 1};
        for (int down = 0; down <= 10; down++) {
            lost(x, down, tops[down], bottoms[down]);
        }
        x.turn(0);
        x.round();
        lost(x, 1, 19, 100);
        // With four exits the probability may have four decimals: 1 - (9/10)^2 * (1/10)^2.
        lost(Check.domain("D4p01c02c13l029l139l031l121e2020e3020e0010e0010"), 1, 9919, 10000);
        lost(new HiddenExits(), 0, 1, 1);
        lost(new HiddenExits(), 10, 1, 1);
        Edge.sentence(30, "0 to 10");
        for (int down = 0; down <= 10; down++) {
            Edge.due("lost(" + down + ", false) is no error", Makers.BUSY.make().lost(down, false) > 0 ? 1 : 0, 1);
        }
        Edge.due("lost(-1, true)", x.lost(-1, true), Check.OUTSIDE);
        Edge.due("lost(11, true)", x.lost(11, true), Check.OUTSIDE);
        Edge.sentence(30, "true: the numerator; false: the denominator");
        Edge.due("lost(3, true)", x.lost(3, true), 51);
        Edge.due("lost(3, false)", x.lost(3, false), 100);
        Edge.sentence(30, "OUTSIDE if x is out of range.");
        int[] outside = {-1, 11, Integer.MIN_VALUE, Integer.MAX_VALUE};
        for (int down : outside) {
            for (Edge.Maker maker : Makers.ALL) {
                Edge.refused(maker, "lost(" + down + ", true)", y -> y.lost(down, true), Check.OUTSIDE);
                Edge.refused(maker, "lost(" + down + ", false)", y -> y.lost(down, false), Check.OUTSIDE);
            }
        }
    }

    private static void seeds() {
        Edge.sentence(31, "Sets the random number.");
        HiddenExits x = Check.domain("D5e0010e1010e2010e3010");
        x.seed(Long.MAX_VALUE);
        int first = x.drawn(20);
        x.seed(Long.MAX_VALUE);
        Edge.due("drawn(20) with the same number", x.drawn(20), first);
        Edge.sentence(31, "Returns the previous one.");
        long[] values = {0L, -1L, 1L, Long.MIN_VALUE, Long.MAX_VALUE, 1L << 32, -2L, -3L, -4L, -9L};
        HiddenExits y = new HiddenExits();
        long previous = 0L;
        for (long value : values) {
            Edge.due("seed(" + value + ")", y.seed(value), previous);
            previous = value;
        }
    }

    private static void draws() {
        Edge.sentence(32, "Simulates m steps of pseudo-random routers, beginning with the present state, which does not change; only"
            + " the random number does.");
        Edge.Maker[] makers = {Makers.FRESH, Makers.BUSY, Makers.FULL};
        for (Edge.Maker maker : makers) {
            long seed = maker.make().seed(0);
            Edge.unchanged(maker, "drawn(20), then seed", x -> x.drawn(20) + x.seed(seed));
        }
        // The routers have their exits already, or have them not yet: the steps are those of the draw.
        HiddenExits x = Check.domain("D2l011c01e0010");
        x.seed(3);
        int none = x.drawn(20);
        x.seed(3);
        x.step(0);
        Edge.due("drawn(20) when router 1 hears it from the beginning", x.drawn(20), 20);
        Edge.due("drawn(20) before that is not more", none <= 20 ? 1 : 0, 1);
        Edge.sentence(32, "For each step the random number x becomes x * 6364136223846793005 + 1442695040888963407 (long arithmetic that"
            + " wraps); let d be its upper 31 bits, as a number of 0 or more.");
        HiddenExits y = new HiddenExits();
        y.drawn(1);
        Edge.due("the random number after 0", y.seed(-1), 1442695040888963407L);
        y.drawn(1);
        Edge.due("the random number after -1", y.seed(Long.MIN_VALUE), 1442695040888963407L - 6364136223846793005L);
        y.drawn(1);
        Edge.due("the random number after the least one", y.seed(0), 1442695040888963407L + Long.MIN_VALUE);
        // Each router has an exit of its own number, so that one draw tells the router: 0, or one below 4.
        HiddenExits four = Check.domain("D4e0010e1010e2010e3010");
        long inverse = inverse();
        long[] drawn = {0L, 1L << 33, 2L << 33, 3L << 33, -1L, Long.MIN_VALUE, Long.MAX_VALUE, (1L << 33) - 1, 7L << 33};
        int[] router = {0, 1, 2, 3, 3, 0, 3, 0, 3};
        for (int k = 0; k < drawn.length; k++) {
            four.seed((drawn[k] - 1442695040888963407L) * inverse);
            Edge.due("drawn(1) with the number " + drawn[k], four.drawn(1), router[k] + 1);
            Edge.due("the number", four.seed(0), drawn[k]);
        }
        Edge.sentence(32, "Router d modulo (number of routers) makes a step, and the number of the exit of its first route plus 1 is"
            + " added to a sum (0 if it has none).");
        Edge.due("drawn(20) without exits", new HiddenExits().drawn(20), 0);
        Edge.due("drawn(20) of one router", Check.domain("D1e0050e0040e0030e0010").drawn(20), 80);
        HiddenExits five = Check.domain("D5e0010e1010e2010e4010");
        // 2^31 - 1 modulo 5 is 2, modulo 3 is 1.
        five.seed((-1L - 1442695040888963407L) * inverse);
        Edge.due("drawn(1) of five routers", five.drawn(1), 3);
        five.seed((3L << 33) * inverse - 1442695040888963407L * inverse);
        Edge.due("drawn(1) of the router without an exit", five.drawn(1), 0);
        HiddenExits three = Check.domain("D3e0010e1010e2010");
        three.seed((-1L - 1442695040888963407L) * inverse);
        Edge.due("drawn(1) of three routers", three.drawn(1), 2);
        drawArguments();
    }

    private static void drawArguments() {
        Edge.sentence(32, "1 to 20");
        HiddenExits x = Check.domain("D1e0010");
        for (int m = 1; m <= 20; m++) {
            Edge.due("drawn(" + m + ")", x.drawn(m), m);
        }
        Edge.sentence(32, "OUTSIDE if m is out of range.");
        int[] outside = {0, -1, 21, Integer.MIN_VALUE, Integer.MAX_VALUE};
        for (int m : outside) {
            for (Edge.Maker maker : Makers.ALL) {
                Edge.refused(maker, "drawn(" + m + ")", y -> y.drawn(m), Check.OUTSIDE);
            }
        }
    }

    /** The number that multiplied with 6364136223846793005 gives 1, in arithmetic that wraps. */
    private static long inverse() {
        long inverse = 1;
        for (int k = 0; k < 6; k++) {
            inverse *= 2 - 6364136223846793005L * inverse;
        }
        return inverse;
    }
}
