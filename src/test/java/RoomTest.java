import java.lang.management.ManagementFactory;
import java.util.Random;

/** No call throws, whatever its arguments are, and no call makes an object: all calls live in one small room. */
public final class RoomTest {
    private static final int[] NUMBERS = {Integer.MIN_VALUE, -1000, -33, -32, -10, -9, -5, -2, -1, 0, 1, 2, 3, 4, 5, 6, 7,
        8, 9, 10, 11, 20, 21, 31, 32, 33, 64, 65, 255, 256, 1 << 30, Integer.MAX_VALUE};
    private static final String[] TEXTS = {"", "D1", "D5", "D5l015l024l031l349c01c02p30c34e1123e2021e4020",
        "D4p01c02c13l029l139l031l121e2010e3010", "D2l011c01e0010e1010e0110e1120"};

    public static void main(String[] args) {
        com.sun.management.ThreadMXBean bean = (com.sun.management.ThreadMXBean) ManagementFactory.getThreadMXBean();
        long self = Thread.currentThread().getId();
        long sum = 0;
        for (String text : TEXTS) {
            HiddenExits x = new HiddenExits();
            Check.write(x, text);
            x.domain();
            Random random = new Random(text.length());
            // The least of some tries, so that what the machine itself makes is not counted.
            long made = Long.MAX_VALUE;
            for (int tries = 0; tries < 4; tries++) {
                long before = bean.getThreadAllocatedBytes(self);
                sum += callAll(x, random);
                made = Math.min(made, bean.getThreadAllocatedBytes(self) - before);
            }
            Check.due(0, "few bytes made by calls", made < 2048 ? 0 : made, 0);
        }
        long before = bean.getThreadAllocatedBytes(self);
        HiddenExits one = new HiddenExits();
        long made = bean.getThreadAllocatedBytes(self) - before;
        Check.due(0, "a new object is small", made < 16384 ? 0 : made, 0);
        System.out.println("a new object takes " + made + " bytes; the sum of all answers is " + (sum + one.count(1)));
        Check.finish();
    }

    private static int any(Random random) {
        return random.nextInt(3) == 0 ? NUMBERS[random.nextInt(NUMBERS.length)] : random.nextInt(6);
    }

    private static long callAll(HiddenExits x, Random random) {
        long sum = 0;
        for (int k = 0; k < 3000; k++) {
            int a = any(random);
            int b = any(random);
            int c = any(random);
            sum = sum * 31 + callOne(x, k % 34, a, b, c, k % 7 == 0 ? random.nextLong() : 10000L * a + 1000L * b + c);
        }
        return sum;
    }

    private static long callOne(HiddenExits x, int method, int a, int b, int c, long l) {
        switch (method) {
            case 0: return x.write(a);
            case 1: return a == 3 ? x.wipe() : x.count(0);
            case 2: return x.fault();
            case 3: return a == 3 ? x.domain() : x.count(1);
            case 4: return x.link(a, b, c);
            case 5: return x.session(a, b);
            case 6: return x.exit(a, b);
            case 7: return x.step(a);
            case 8: return x.round();
            case 9: return x.setLink(a, b, c);
            case 10: return x.turn(a);
            case 11: return x.weigh(a, b);
            case 12: return x.add(a);
            case 13: return x.setMode(a);
            case 14: return x.undo();
            case 15: return x.choice(a, b, c);
            case 16: return x.heard(a);
            case 17: return x.tells(a, b);
            case 18: return x.mesh(a);
            case 19: return x.leaves(a, b);
            case 20: return x.run(a, b);
            case 21: return x.orders(a);
            case 22: return x.healed(a);
            case 23: return x.judge(a, l);
            case 24: return x.see(a, b, c);
            case 25: return a == 3 ? x.unsee() : x.count(10);
            case 26: return x.which();
            case 27: return x.share(a, b > 2);
            case 28: return x.lost(a, b > 2);
            case 29: return x.seed(l);
            case 30: return x.drawn(a);
            case 31: return x.keep(a);
            case 32: return x.again(a);
            default: return x.count(a);
        }
    }
}
