/** An object of the class and the reference, which get the same calls; it counts where they differ. */
final class Pair {
    static int wrong;

    private final HiddenExits x = new HiddenExits();
    private final Reference r = new Reference();
    private final StringBuilder log = new StringBuilder();

    /** Makes a call on both, with as many of the numbers as the method takes; answers what the class answered. */
    long call(String method, int a, int b, int c, long l) {
        boolean upper = (l & 1) == 1;
        return switch (method) {
            case "write" -> same(method + "(" + a + ")", x.write(a), r.write(a));
            case "wipe" -> same("wipe()", x.wipe(), r.wipe());
            case "fault" -> same("fault()", x.fault(), r.fault());
            case "domain" -> same("domain()", x.domain(), r.domain());
            case "link" -> same(name(method, a, b, c), x.link(a, b, c), r.link(a, b, c));
            case "session" -> same(name(method, a, b), x.session(a, b), r.session(a, b));
            case "exit" -> same(name(method, a, b), x.exit(a, b), r.exit(a, b));
            case "step" -> same(name(method, a), x.step(a), r.step(a));
            case "round" -> same("round()", x.round(), r.round());
            case "setLink" -> same(name(method, a, b, c), x.setLink(a, b, c), r.setLink(a, b, c));
            case "turn" -> same(name(method, a), x.turn(a), r.turn(a));
            case "weigh" -> same(name(method, a, b), x.weigh(a, b), r.weigh(a, b));
            case "add" -> same(name(method, a), x.add(a), r.add(a));
            case "setMode" -> same(name(method, a), x.setMode(a), r.setMode(a));
            case "undo" -> same("undo()", x.undo(), r.undo());
            case "choice" -> same(name(method, a, b, c), x.choice(a, b, c), r.choice(a, b, c));
            case "heard" -> same(name(method, a), x.heard(a), r.heard(a));
            case "tells" -> same(name(method, a, b), x.tells(a, b), r.tells(a, b));
            case "mesh" -> same(name(method, a), x.mesh(a), r.mesh(a));
            case "leaves" -> same(name(method, a, b), x.leaves(a, b), r.leaves(a, b));
            case "run" -> same(name(method, a, b), x.run(a, b), r.run(a, b));
            case "orders" -> same(name(method, a), x.orders(a), r.orders(a));
            case "healed" -> same(name(method, a), x.healed(a), r.healed(a));
            case "judge" -> same("judge(" + a + ", " + l + "L)", x.judge(a, l), r.judge(a, l));
            case "see" -> same(name(method, a, b, c), x.see(a, b, c), r.see(a, b, c));
            case "unsee" -> same("unsee()", x.unsee(), r.unsee());
            case "which" -> same("which()", x.which(), r.which());
            case "share" -> same("share(" + a + ", " + upper + ")", x.share(a, upper), r.share(a, upper));
            case "lost" -> same("lost(" + a + ", " + upper + ")", x.lost(a, upper), r.lost(a, upper));
            case "seed" -> same("seed(" + l + "L)", x.seed(l), r.seed(l));
            case "drawn" -> same(name(method, a), x.drawn(a), r.drawn(a));
            case "keep" -> same(name(method, a), x.keep(a), r.keep(a));
            case "again" -> same(name(method, a), x.again(a), r.again(a));
            case "count" -> same(name(method, a), x.count(a), r.count(a));
            default -> throw new IllegalArgumentException(method);
        };
    }

    int routers() {
        return x.count(1);
    }

    long call(String method, int a) {
        return call(method, a, 0, 0, 0);
    }

    /** Empties the text and writes another one; this is not part of the log, which names the text instead. */
    void text(String text) {
        log.append("text ").append(text).append("; ");
        same(null, x.wipe(), r.wipe());
        for (char c : text.toCharArray()) {
            same(null, x.write(c), r.write(c));
        }
    }

    /** Compares all that can be seen of the present state without a simulation. */
    void compareStates() {
        for (int what = 0; what <= 10; what++) {
            call("count", what);
        }
        int routers = x.count(1);
        for (int i = 0; i < routers; i++) {
            for (int j = 0; j < routers; j++) {
                call("link", i, j, 0, 0);
                call("link", i, j, 1, 0);
                call("session", i, j, 0, 0);
                call("tells", i, j, 0, 0);
            }
            for (int k = 0; k < 6; k++) {
                call("choice", i, k / 3, k % 3, 0);
            }
            call("heard", i);
            call("mesh", i);
            call("leaves", i, 0, 0, 0);
            call("leaves", i, 1, 0, 0);
        }
        for (int e = 0; e < x.count(4); e++) {
            for (int what = 0; what <= 4; what++) {
                call("exit", e, what, 0, 0);
            }
        }
    }

    private static String name(String method, int... numbers) {
        String joined = java.util.Arrays.toString(numbers);
        return method + "(" + joined.substring(1, joined.length() - 1) + ")";
    }

    private long same(String call, long got, long want) {
        if (call != null) {
            log.append(call).append(" = ").append(got).append("; ");
        }
        if (got != want) {
            wrong++;
            if (wrong <= 10) {
                System.out.println("due is " + want + " at the end of: " + log);
            }
        }
        return got;
    }
}
