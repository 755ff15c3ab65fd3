/** The edges of what the description says of all calls: error codes, which of them comes first, and queries. */
final class CallEdges {
    private CallEdges() {
    }

    static void check() {
        codes();
        order();
        none();
        errors();
        queries();
    }

    private static void codes() {
        Edge.sentence(0, "The error codes are UNKNOWN (there is no such router, exit or slot), OUTSIDE (another argument is out of its"
            + " range), STATE (the call is not possible, as told), FULL (there is no room).");
        Edge.due("UNKNOWN", HiddenExits.UNKNOWN, -1);
        Edge.due("OUTSIDE", HiddenExits.OUTSIDE, -2);
        Edge.due("STATE", HiddenExits.STATE, -3);
        Edge.due("FULL", HiddenExits.FULL, -4);
        Edge.due("NONE", HiddenExits.NONE, -9);
        HiddenExits x = new HiddenExits();
        Edge.due("step(1)", x.step(1), HiddenExits.UNKNOWN);
        Edge.due("turn(0)", x.turn(0), HiddenExits.UNKNOWN);
        Edge.due("keep(2)", x.keep(2), HiddenExits.UNKNOWN);
        Edge.due("setMode(3)", x.setMode(3), HiddenExits.OUTSIDE);
        Edge.due("domain()", x.domain(), HiddenExits.STATE);
        Edge.due("undo()", x.undo(), HiddenExits.STATE);
        Edge.due("again(0)", x.again(0), HiddenExits.STATE);
        Edge.due("write(0) of 90 characters", Makers.FULL.make().write(0), HiddenExits.FULL);
        Edge.due("see(0, 0, 0) of 6 observations", Makers.FULL.make().see(0, 0, 0), HiddenExits.FULL);
    }

    private static void order() {
        Edge.sentence(0, "If several apply to a call, the result is the one that the description of the method's result names first.");
        Edge.refused(Makers.FULL, "write(256)", x -> x.write(256), Check.OUTSIDE);
        Edge.refused(Makers.FULL, "write(-1)", x -> x.write(-1), Check.OUTSIDE);
        Edge.refused(Makers.FULL, "link(5, 0, 2)", x -> x.link(5, 0, 2), Check.UNKNOWN);
        Edge.refused(Makers.FULL, "link(0, -1, -1)", x -> x.link(0, -1, -1), Check.UNKNOWN);
        Edge.refused(Makers.FULL, "exit(4, 5)", x -> x.exit(4, 5), Check.UNKNOWN);
        Edge.refused(Makers.FULL, "exit(-1, -1)", x -> x.exit(-1, -1), Check.UNKNOWN);
        Edge.refused(Makers.FULL, "setLink(5, 5, 1)", x -> x.setLink(5, 5, 1), Check.UNKNOWN);
        Edge.refused(Makers.FULL, "setLink(5, 0, 10)", x -> x.setLink(5, 0, 10), Check.UNKNOWN);
        Edge.refused(Makers.FULL, "setLink(-1, -1, -1)", x -> x.setLink(-1, -1, -1), Check.UNKNOWN);
        Edge.refused(Makers.FULL, "weigh(4, 6)", x -> x.weigh(4, 6), Check.UNKNOWN);
        Edge.refused(Makers.FULL, "weigh(-1, -1)", x -> x.weigh(-1, -1), Check.UNKNOWN);
        Edge.refused(Makers.FULL, "choice(5, 2, 3)", x -> x.choice(5, 2, 3), Check.UNKNOWN);
        Edge.refused(Makers.FULL, "choice(5, 2, 0)", x -> x.choice(5, 2, 0), Check.UNKNOWN);
        Edge.refused(Makers.FULL, "choice(-1, 0, 3)", x -> x.choice(-1, 0, 3), Check.UNKNOWN);
        Edge.refused(Makers.FULL, "leaves(5, 2)", x -> x.leaves(5, 2), Check.UNKNOWN);
        Edge.refused(Makers.FULL, "see(5, 0, 2)", x -> x.see(5, 0, 2), Check.UNKNOWN);
        Edge.refused(Makers.FULL, "see(0, 4, 2)", x -> x.see(0, 4, 2), Check.UNKNOWN);
        Edge.refused(Makers.FULL, "see(0, 4, 1)", x -> x.see(0, 4, 1), Check.UNKNOWN);
        Edge.refused(Makers.FULL, "see(0, 0, 2)", x -> x.see(0, 0, 2), Check.OUTSIDE);
        Edge.refused(Makers.FRESH, "again(2), where no slot is filled", x -> x.again(2), Check.UNKNOWN);
        Edge.refused(Makers.FRESH, "again(-1), where no slot is filled", x -> x.again(-1), Check.UNKNOWN);
    }

    private static void none() {
        Edge.sentence(0, "NONE stands for \"there is none\"; a method returns NONE only if no error applies.");
        HiddenExits x = Check.domain("D2");
        Edge.due("link(0, 1, 1)", x.link(0, 1, 1), Check.NONE);
        Edge.due("link(0, 1, 2)", x.link(0, 1, 2), Check.OUTSIDE);
        Edge.due("link(0, 2, 1)", x.link(0, 2, 1), Check.UNKNOWN);
        Edge.due("choice(0, 0, 0)", x.choice(0, 0, 0), Check.NONE);
        Edge.due("choice(0, 0, 3)", x.choice(0, 0, 3), Check.OUTSIDE);
        Edge.due("choice(0, 2, 0)", x.choice(0, 2, 0), Check.OUTSIDE);
        Edge.due("choice(2, 0, 0)", x.choice(2, 0, 0), Check.UNKNOWN);
        Edge.due("mesh(1)", x.mesh(1), Check.NONE);
        Edge.due("mesh(2)", x.mesh(2), Check.UNKNOWN);
        Edge.due("leaves(0, 1)", x.leaves(0, 1), Check.NONE);
        Edge.due("leaves(0, 2)", x.leaves(0, 2), Check.OUTSIDE);
        Edge.due("leaves(2, 0)", x.leaves(2, 0), Check.UNKNOWN);
        HiddenExits y = Check.domain(Makers.RESTLESS);
        Edge.due("run(1, 3)", y.run(1, 3), Check.NONE);
        Edge.due("run(2, 3)", y.run(2, 3), Check.OUTSIDE);
        Edge.due("run(1, 4)", y.run(1, 4), Check.OUTSIDE);
        Edge.due("orders(2)", y.orders(2), Check.NONE);
        Edge.due("orders(3)", y.orders(3), Check.OUTSIDE);
        Edge.due("judge(1, 5009)", y.judge(1, 5009), Check.NONE);
        Edge.due("judge(0, 5009)", y.judge(0, 5009), Check.OUTSIDE);
    }

    private static void errors() {
        Edge.sentence(0, "A call that returns an error changes nothing.");
        int[] odd = {-1, 5, 256, Integer.MIN_VALUE, Integer.MAX_VALUE};
        for (int a : odd) {
            for (Edge.Maker maker : Makers.ALL) {
                Edge.Call[] calls = {x -> x.write(a == 5 ? 257 : a), x -> x.link(a, a, a), x -> x.session(a, a), x -> x.exit(a, a),
                    x -> x.step(a), x -> x.setLink(a, 0, a), x -> x.setLink(0, a, a), x -> x.turn(a), x -> x.weigh(a, a),
                    x -> x.add(a), x -> x.setMode(a), x -> x.choice(a, a, a), x -> x.heard(a), x -> x.tells(a, a), x -> x.mesh(a),
                    x -> x.leaves(a, a), x -> x.run(a, a), x -> x.orders(a), x -> x.healed(a), x -> x.judge(a, a),
                    x -> x.see(a, a, a), x -> x.share(a, true), x -> x.lost(a == 5 ? 12 : a, true), x -> x.drawn(a == 5 ? 25 : a),
                    x -> x.keep(a), x -> x.again(a), x -> x.count(a == 5 ? 15 : a)};
                for (int k = 0; k < calls.length; k++) {
                    long answer = calls[k].on(maker.make());
                    Edge.due("call " + k + " of " + a + " is an error", answer >= -4 && answer <= -1 ? 1 : 0, 1);
                    Edge.unchanged(maker, "call " + k + " of " + a, calls[k]);
                }
            }
        }
    }

    private static void queries() {
        Edge.sentence(0, "Queries change nothing.");
        Edge.Call[] calls = {HiddenExits::fault, x -> x.link(0, 1, 0), x -> x.link(1, 0, 1), x -> x.session(0, 1), x -> x.exit(0, 3),
            x -> x.choice(0, 0, 0), x -> x.choice(1, 1, 2), x -> x.heard(0), x -> x.heard(2), x -> x.tells(0, 1), x -> x.mesh(0),
            x -> x.mesh(2), x -> x.leaves(1, 0), x -> x.leaves(2, 1), x -> x.run(0, 0), x -> x.run(1, 1), x -> x.run(1, 2),
            x -> x.run(0, 3), x -> x.orders(0), x -> x.orders(1), x -> x.orders(2), x -> x.healed(0), x -> x.healed(1),
            x -> x.judge(4, 1000110040007001L), x -> x.judge(4, 2000300540001000L), x -> x.judge(2, 70007001L), HiddenExits::which,
            x -> x.share(0, true), x -> x.share(1, false), x -> x.lost(0, true), x -> x.lost(5, false), x -> x.count(0),
            x -> x.count(8)};
        Edge.Maker cycling = () -> {
            HiddenExits x = Check.domain(Makers.DISAGREE);
            Edge.rounds(x, 3);
            x.keep(1);
            x.see(0, 0, 1);
            return x;
        };
        Edge.Maker[] makers = {Makers.FRESH, Makers.BUSY, Makers.FULL, cycling};
        for (Edge.Maker maker : makers) {
            for (int k = 0; k < calls.length; k++) {
                Edge.unchanged(maker, "query " + k, calls[k]);
            }
        }
    }
}
