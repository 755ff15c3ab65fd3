import java.math.BigInteger;

/** Promises 29 to 32: Shapley values, probabilities, and steps of pseudo-random routers. */
public final class NumberTest {
    private static final String DISAGREE = "D4p01c02c13l029l139l031l121e2010e3010";

    public static void main(String[] args) {
        shares();
        losses();
        seeds();
        draws();
        Check.finish();
    }

    private static void share(HiddenExits x, int exit, int top, int bottom) {
        Check.due(29, "share(" + exit + ", true)", x.share(exit, true), top);
        Check.due(29, "share(" + exit + ", false)", x.share(exit, false), bottom);
    }

    private static void shares() {
        HiddenExits one = Check.domain("D1e0010");
        share(one, 0, 1, 1);
        HiddenExits x = Check.domain(DISAGREE);
        // Alone, each exit is worth 1; both together do not come to rest and are worth 0.
        share(x, 0, 0, 1);
        share(x, 1, 0, 1);
        x.add(0);
        share(x, 0, 1, 1);
        share(x, 1, 1, 1);
        HiddenExits y = Check.domain(DISAGREE + "e0050");
        share(y, 0, -1, 6);
        share(y, 1, -1, 6);
        share(y, 2, 1, 3);
        y.turn(0);
        y.turn(2);
        y.round();
        share(y, 0, -1, 6);
        share(y, 2, 1, 3);
        Check.due(29, "count(5)", y.count(5), 2);
        Check.due(29, "share(3, true)", y.share(3, true), Check.UNKNOWN);
        Check.due(29, "share(-1, false)", y.share(-1, false), Check.UNKNOWN);
        // Four routers apart with an exit each, and one with two: the exits 3 and 4 would be alike.
        HiddenExits z = Check.domain("D3e0010e1010e2010e2020");
        share(z, 0, 1, 1);
        share(z, 2, 1, 2);
        share(z, 3, 1, 2);
        // An exit at the only router: three others of the same kind take the same part.
        HiddenExits four = Check.domain("D1e0010e0010e0010e0020");
        share(four, 0, 1, 4);
        share(four, 3, 1, 4);
        HiddenExits far = Check.domain("D5l011c01e0010e1020e1020");
        share(far, 0, 1, 3);
        Check.due(29, "share(0, true) without exits", new HiddenExits().share(0, true), Check.UNKNOWN);
    }

    private static void lost(HiddenExits x, int down, int top, int bottom) {
        Check.due(30, "lost(" + down + ", true)", x.lost(down, true), top);
        Check.due(30, "lost(" + down + ", false)", x.lost(down, false), bottom);
    }

    private static void losses() {
        HiddenExits x = Check.domain(DISAGREE);
        // Only with both exits there is no rest.
        lost(x, 0, 0, 1);
        lost(x, 1, 19, 100);
        lost(x, 3, 51, 100);
        lost(x, 5, 3, 4);
        lost(x, 8, 24, 25);
        lost(x, 10, 1, 1);
        x.turn(0);
        x.round();
        lost(x, 3, 51, 100);
        Check.due(30, "count(5)", x.count(5), 2);
        x.add(0);
        lost(x, 0, 1, 1);
        lost(x, 7, 1, 1);
        Check.due(30, "lost(-1, true)", x.lost(-1, true), Check.OUTSIDE);
        Check.due(30, "lost(11, false)", x.lost(11, false), Check.OUTSIDE);
        lost(new HiddenExits(), 4, 1, 1);
        HiddenExits y = Check.domain(DISAGREE + "e0050e0050");
        lost(y, 1, 19, 100);
        lost(y, 9, 99, 100);
        // The shorter exit 2 calms the others, if it is up: 1 - (9/10)^2 * 1/10.
        HiddenExits z = Check.domain("D4p01c02c13l029l139l031l121e2020e3020e0010");
        lost(z, 1, 919, 1000);
        lost(z, 0, 1, 1);
    }

    private static void seeds() {
        HiddenExits x = new HiddenExits();
        Check.due(31, "seed(max)", x.seed(Long.MAX_VALUE), 0);
        Check.due(31, "seed(min)", x.seed(Long.MIN_VALUE), Long.MAX_VALUE);
        Check.due(31, "seed(-9)", x.seed(-9), Long.MIN_VALUE);
        Check.due(31, "seed(3)", x.seed(3), -9);
        Check.read(x, "D2");
        Check.due(31, "seed(4)", x.seed(4), 3);
        Check.due(31, "count(9)", x.count(9), 0);
    }

    private static void draws() {
        for (int routers = 1; routers <= 4; routers++) {
            StringBuilder text = new StringBuilder("D" + routers);
            for (int router = 0; router < routers; router++) {
                text.append("e").append(router).append("010");
            }
            HiddenExits x = Check.domain(text.toString());
            long[] starts = {0, 1, -1, 5, Long.MIN_VALUE, 123456789012345L};
            for (long start : starts) {
                drawnApart(x, routers, start);
            }
            Check.due(32, "count(8)", x.count(8), 0);
            Check.due(32, "count(9)", x.count(9), 0);
        }
        HiddenExits x = Check.domain("D2l011c01e1011");
        x.seed(7);
        Check.due(32, "drawn(0)", x.drawn(0), Check.OUTSIDE);
        Check.due(32, "drawn(21)", x.drawn(21), Check.OUTSIDE);
        Check.due(32, "drawn(-1)", x.drawn(-1), Check.OUTSIDE);
        Check.due(32, "seed(7) is as before the errors", x.seed(7), 7);
        // Every step adds 1, but for those of router 0 before the first one of router 1.
        Check.due(32, "drawn(20)", x.drawn(20), 20 - leadingZeros(7));
        x.seed(7);
        x.step(1);
        Check.due(32, "drawn(20) when router 0 hears it at once", x.drawn(20), 20);
        x.seed(7);
        x.turn(0);
        Check.due(32, "drawn(1)", x.drawn(1), routerOf(next(7), 2) == 1 ? 0 : 1);
    }

    /** Each router has an exit of the same number, and no session: so the sum tells which routers were drawn. */
    private static void drawnApart(HiddenExits x, int routers, long start) {
        for (int m = 1; m <= 20; m++) {
            long random = start;
            int sum = 0;
            for (int k = 0; k < m; k++) {
                random = next(random);
                sum += routerOf(random, routers) + 1;
            }
            x.seed(start);
            Check.due(32, "drawn(" + m + ") of " + routers + " routers after " + start, x.drawn(m), sum);
            Check.due(32, "seed(0)", x.seed(0), random);
        }
    }

    private static int leadingZeros(long start) {
        long random = next(start);
        int zeros = 0;
        while (routerOf(random, 2) == 0) {
            zeros++;
            random = next(random);
        }
        return zeros;
    }

    private static long next(long random) {
        BigInteger product = BigInteger.valueOf(random).multiply(new BigInteger("6364136223846793005"));
        return product.add(new BigInteger("1442695040888963407")).longValue();
    }

    private static int routerOf(long random, int routers) {
        BigInteger bits = BigInteger.valueOf(random);
        if (random < 0) {
            bits = bits.add(BigInteger.ONE.shiftLeft(64));
        }
        return bits.shiftRight(33).mod(BigInteger.valueOf(routers)).intValue();
    }
}
