/** The edges of acts and of undoing them: promises 9 to 16, and what the description says of acts and errors. */
final class ActEdges {
    private ActEdges() {
    }

    static void check() {
        acts();
        fourteen();
        choicesStay();
        steps();
        rounds();
        links();
        turning();
        weighing();
        adding();
        modes();
        undoing();
    }

    private static void isAct(String name, Edge.Call call) {
        HiddenExits x = Makers.BUSY.make();
        int before = x.count(9);
        call.on(x);
        Edge.due("count(9) after " + name, x.count(9), before + 1);
        Edge.due("undo() of " + name, x.undo(), before);
        String with = Everything.of(() -> {
            HiddenExits y = Makers.BUSY.make();
            call.on(y);
            y.undo();
            return y;
        });
        Edge.due("all is as before " + name, with.equals(Everything.of(Makers.BUSY)) ? 1 : 0, 1);
    }

    private static void acts() {
        Edge.sentence(0, "The acts are the successful calls of step, round, setLink, turn, weigh, add and setMode.");
        isAct("step(2)", x -> x.step(2));
        isAct("step(0), which changes nothing", x -> x.step(0));
        isAct("round()", HiddenExits::round);
        isAct("setLink(0, 1, 5)", x -> x.setLink(0, 1, 5));
        isAct("setLink(0, 1, 2), which changes nothing", x -> x.setLink(0, 1, 2));
        isAct("turn(1)", x -> x.turn(1));
        isAct("weigh(0, 5)", x -> x.weigh(0, 5));
        isAct("weigh(0, 3), which changes nothing", x -> x.weigh(0, 3));
        isAct("add(1)", x -> x.add(1));
        isAct("setMode(0)", x -> x.setMode(0));
        isAct("setMode(1), which changes nothing", x -> x.setMode(1));
        HiddenExits x = Makers.BUSY.make();
        int before = x.count(9);
        Edge.Call[] others = {y -> y.step(3), y -> y.setLink(0, 0, 1), y -> y.turn(2), y -> y.weigh(0, 6), y -> y.add(3),
            y -> y.setMode(3), y -> y.write('D'), HiddenExits::wipe, HiddenExits::domain, y -> y.see(0, 0, 0),
            HiddenExits::unsee, y -> y.seed(1), y -> y.drawn(3), y -> y.keep(1), y -> y.judge(1, 1000),
            y -> y.run(0, 0), y -> y.orders(0), y -> y.healed(0), HiddenExits::which, y -> y.lost(1, true)};
        for (int k = 0; k < others.length; k++) {
            others[k].on(x);
            Edge.due("count(9) after call " + k + " that is no act", x.count(9), before);
        }
    }

    private static void fourteen() {
        Edge.sentence(0, "The latest 14 acts can be undone, the latest one first.");
        for (int acts = 0; acts <= 44; acts++) {
            HiddenExits x = Check.domain("D2l011e0010");
            for (int k = 1; k <= acts; k++) {
                if (k % 2 == 1) {
                    x.weigh(0, k / 2 % 6);
                } else {
                    x.setLink(0, 1, k / 2 % 10);
                }
            }
            int held = Math.min(acts, 14);
            Edge.due("count(9) after " + acts + " acts", x.count(9), held);
            for (int left = held - 1; left >= 0; left--) {
                Edge.due("undo() after " + acts + " acts", x.undo(), left);
                // The number of acts that are not undone, and what the latest two of them have set.
                int stay = acts - held + left;
                int weights = (stay + 1) / 2;
                int links = stay / 2;
                Edge.due("exit(0, 3) after " + stay, x.exit(0, 3), weights == 0 ? 0 : (weights - 1) % 6);
                Edge.due("link(0, 1, 0) after " + stay, x.link(0, 1, 0), links == 0 ? 1 : links % 10);
            }
            Edge.due("undo() when none is left", x.undo(), Check.STATE);
        }
        // After undoing there is room again for as many as have been undone.
        HiddenExits y = Check.domain("D1e0010");
        for (int k = 0; k < 14; k++) {
            y.weigh(0, k % 6);
        }
        y.undo();
        y.undo();
        y.weigh(0, 5);
        Edge.due("count(9)", y.count(9), 13);
        y.weigh(0, 4);
        Edge.due("count(9)", y.count(9), 14);
        y.weigh(0, 3);
        Edge.due("count(9)", y.count(9), 14);
        for (int left = 13; left >= 0; left--) {
            y.undo();
        }
        Edge.due("exit(0, 3), the first one could not be undone", y.exit(0, 3), 0);
        Edge.due("undo()", y.undo(), Check.STATE);
    }

    private static void choicesStay() {
        Edge.sentence(0, "Only step and round change choices; but a router that is not extended any more has no second route.");
        HiddenExits x = Check.domain(Makers.STAR);
        x.add(1);
        Edge.rounds(x, 2);
        x.turn(0);
        x.turn(1);
        x.setLink(0, 1, 0);
        x.setLink(1, 2, 0);
        x.weigh(0, 5);
        x.setMode(1);
        x.add(0);
        Edge.choice(x, 0, 0, 0, 0, 0);
        Edge.choice(x, 0, 1);
        Edge.choice(x, 1, 0, 0, 0, 1);
        Edge.choice(x, 1, 1, 1, 2, 4);
        Edge.choice(x, 2, 0, 1, 2, 0);
        x.add(1);
        Edge.choice(x, 1, 0, 0, 0, 1);
        Edge.choice(x, 1, 1);
        x.add(1);
        Edge.choice(x, 1, 1);
        x.undo();
        x.undo();
        Edge.choice(x, 1, 1, 1, 2, 4);
        Edge.due("round()", x.round(), 3);
        for (int router = 0; router < 3; router++) {
            Edge.choice(x, router, 0);
            Edge.choice(x, router, 1);
        }
    }

    private static void steps() {
        Edge.sentence(9, "Lets a router make a step. This is an act.");
        HiddenExits x = Check.domain(Makers.STAR);
        x.step(0);
        Edge.due("count(8)", x.count(8), 1);
        Edge.due("count(9)", x.count(9), 1);
        x.step(2);
        Edge.due("count(8)", x.count(8), 5);
        Edge.sentence(9, "Returns 1 if its choices are different after that, else 0;");
        Edge.due("step(0) once more", x.step(0), 0);
        Edge.due("count(9) after a step that changes nothing", x.count(9), 3);
        Edge.due("step(1)", x.step(1), 1);
        Edge.due("step(1) once more", x.step(1), 0);
        x.add(1);
        Edge.due("step(1), which gets a second route", x.step(1), 1);
        x.turn(1);
        x.step(2);
        Edge.due("step(1), which loses its second route", x.step(1), 1);
        Edge.choice(x, 1, 0, 0, 0, 1);
        Edge.choice(x, 1, 1);
        // The exit stays, but the route comes from another router, or with other marks.
        HiddenExits y = Check.domain("D4l011l021l131l231c10c20c13c23e0010");
        y.step(0);
        y.step(2);
        y.step(3);
        y.step(1);
        Edge.due("step(3), which hears it from a lower router", y.step(3), 1);
        HiddenExits z = Check.domain("D4l011l121l231c01c12c23c02e0010");
        z.step(0);
        z.step(1);
        z.turn(0);
        z.step(0);
        z.step(2);
        Edge.choice(z, 2, 0, 0, 1, 3);
        z.step(3);
        Edge.choice(z, 3, 0, 0, 2, 7);
        z.turn(0);
        z.step(0);
        Edge.due("step(2), which hears it with fewer marks", z.step(2), 1);
        Edge.due("step(3), which hears it with fewer marks from the same router", z.step(3), 1);
        Edge.choice(z, 3, 0, 0, 2, 5);
        Edge.sentence(9, "UNKNOWN if there is no such router.");
        Edge.unknown("step", false, HiddenExits::step);
    }

    private static void rounds() {
        Edge.sentence(10, "Carries out a round. This is an act.");
        HiddenExits x = Check.domain(Makers.STAR);
        x.round();
        Edge.due("count(8)", x.count(8), 5);
        Edge.due("count(9)", x.count(9), 1);
        Edge.sentence(10, "Returns the number of routers whose choices are different after that.");
        Edge.due("round() of one router without exits", new HiddenExits().round(), 0);
        Edge.due("round() of all five", Check.domain("D5e0010e1010e2010e3010").round(), 4);
        Edge.due("round()", x.round(), 1);
        Edge.due("round() that changes nothing", x.round(), 0);
        Edge.due("count(9)", x.count(9), 3);
        // All five change: four lose their exit, and the last one what it was told.
        HiddenExits y = Check.domain("D5l401c04e0010e1010e2010e3010");
        Edge.rounds(y, 2);
        Edge.due("count(8)", y.count(8), 31);
        for (int exit = 0; exit < 4; exit++) {
            y.turn(exit);
        }
        Edge.due("round()", y.round(), 4);
        Edge.due("round()", y.round(), 1);
        HiddenExits z = Check.domain("D1e0010e0020e0030");
        z.add(0);
        z.round();
        z.turn(1);
        Edge.due("round() that changes a second route only", z.round(), 1);
    }

    private static void links() {
        Edge.sentence(11, "Sets or removes the link of two routers. This is an act.");
        HiddenExits x = Check.domain("D2");
        x.setLink(0, 1, 4);
        Edge.due("link(1, 0, 0)", x.link(1, 0, 0), 4);
        Edge.due("count(2)", x.count(2), 1);
        x.setLink(1, 0, 0);
        Edge.due("link(0, 1, 0)", x.link(0, 1, 0), 0);
        Edge.due("link(0, 1, 1)", x.link(0, 1, 1), Check.NONE);
        Edge.due("count(2)", x.count(2), 0);
        Edge.due("count(9)", x.count(9), 2);
        // The nearest exit is another one at the next step.
        HiddenExits near = Check.domain(Makers.STAR);
        Edge.rounds(near, 2);
        Edge.due("mesh(1)", near.mesh(1), 0);
        near.setLink(0, 1, 4);
        Edge.choice(near, 1, 0, 0, 0, 1);
        Edge.due("mesh(1)", near.mesh(1), 1);
        near.step(1);
        Edge.choice(near, 1, 0, 1, 2, 4);
        Edge.sentence(11, "another router");
        Edge.due("setLink(1, 1, 4)", x.setLink(1, 1, 4), Check.OUTSIDE);
        Edge.sentence(11, "the new cost, 1 to 9, or 0 to remove the link");
        int previous = 0;
        for (int c = 0; c <= 9; c++) {
            Edge.due("setLink(0, 1, " + c + ")", x.setLink(0, 1, c), previous);
            Edge.due("link(0, 1, 1)", x.link(0, 1, 1), c == 0 ? Check.NONE : c);
            previous = c;
        }
        Edge.sentence(11, "Returns the previous cost, 0 if there was no link;");
        Edge.due("setLink(0, 1, 0)", x.setLink(0, 1, 0), 9);
        Edge.due("setLink(0, 1, 0) without a link", x.setLink(0, 1, 0), 0);
        Edge.due("setLink(1, 0, 1) without a link", x.setLink(1, 0, 1), 0);
        Edge.due("setLink(0, 1, 1)", x.setLink(0, 1, 1), 1);
        Edge.sentence(11, "UNKNOWN if there is no such router (either one);");
        Edge.unknown("setLink(n, 0, 1)", false, (y, n) -> n == 0 ? 0 : y.setLink(n, 0, 1));
        Edge.unknown("setLink(0, n, 1)", false, (y, n) -> n == 0 ? 0 : y.setLink(0, n, 1));
        Edge.refused(Makers.BUSY, "setLink(3, 3, 1)", y -> y.setLink(3, 3, 1), Check.UNKNOWN);
        Edge.refused(Makers.BUSY, "setLink(3, 0, 10)", y -> y.setLink(3, 0, 10), Check.UNKNOWN);
        Edge.refused(Makers.BUSY, "setLink(0, -1, -1)", y -> y.setLink(0, -1, -1), Check.UNKNOWN);
        Edge.sentence(11, "OUTSIDE if both are the same or c is out of range.");
        for (Edge.Maker maker : Makers.ALL) {
            Edge.refused(maker, "setLink(0, 0, 1)", y -> y.setLink(0, 0, 1), Check.OUTSIDE);
            Edge.refused(maker, "setLink(0, 0, 0)", y -> y.setLink(0, 0, 0), Check.OUTSIDE);
            Edge.refused(maker, "setLink(0, 0, 10)", y -> y.setLink(0, 0, 10), Check.OUTSIDE);
        }
        int[] outside = {-1, 10, 11, -9, Integer.MIN_VALUE, Integer.MAX_VALUE};
        for (int c : outside) {
            Edge.refused(Makers.BUSY, "setLink(0, 1, " + c + ")", y -> y.setLink(0, 1, c), Check.OUTSIDE);
            Edge.refused(Makers.FULL, "setLink(4, 3, " + c + ")", y -> y.setLink(4, 3, c), Check.OUTSIDE);
        }
        Edge.refused(Makers.FULL, "setLink(4, 4, 9)", y -> y.setLink(4, 4, 9), Check.OUTSIDE);
    }

    private static void turning() {
        Edge.sentence(12, "Turns an exit down if it is up, and up if it is down. This is an act.");
        HiddenExits x = Check.domain("D1e0010e0010e0010e0010");
        for (int exit = 0; exit < 4; exit++) {
            x.turn(exit);
            Edge.due("exit(" + exit + ", 4)", x.exit(exit, 4), 0);
        }
        Edge.due("count(5) when all are down", x.count(5), 0);
        for (int exit = 3; exit >= 0; exit--) {
            x.turn(exit);
            Edge.due("exit(" + exit + ", 4)", x.exit(exit, 4), 1);
        }
        Edge.due("count(5) when all are up", x.count(5), 15);
        Edge.due("count(9)", x.count(9), 8);
        Edge.sentence(12, "Returns 1 if it is up after that, else 0;");
        Edge.due("turn(3)", x.turn(3), 0);
        Edge.due("turn(3)", x.turn(3), 1);
        Edge.due("turn(0)", x.turn(0), 0);
        Edge.sentence(12, "UNKNOWN if there is no such exit.");
        Edge.unknown("turn", true, HiddenExits::turn);
    }

    private static void weighing() {
        Edge.sentence(13, "Sets the weight of an exit. This is an act.");
        HiddenExits x = Check.domain("D1e0010e0010e0010e0015");
        x.weigh(3, 2);
        Edge.due("exit(3, 3)", x.exit(3, 3), 2);
        Edge.due("exit(2, 3)", x.exit(2, 3), 0);
        Edge.due("count(9)", x.count(9), 1);
        // The lightest exit is another one at the next step.
        HiddenExits light = Check.domain(Makers.STAR);
        Edge.rounds(light, 2);
        Edge.due("mesh(1)", light.mesh(1), 0);
        light.weigh(0, 1);
        Edge.choice(light, 1, 0, 0, 0, 1);
        Edge.due("mesh(1)", light.mesh(1), 1);
        light.step(1);
        Edge.choice(light, 1, 0, 1, 2, 4);
        Edge.sentence(13, "the new weight, 0 to 5");
        for (int v = 0; v <= 5; v++) {
            x.weigh(0, v);
            Edge.due("exit(0, 3)", x.exit(0, 3), v);
        }
        Edge.sentence(13, "Returns the previous weight;");
        Edge.due("weigh(0, 0)", x.weigh(0, 0), 5);
        Edge.due("weigh(0, 0)", x.weigh(0, 0), 0);
        Edge.due("weigh(3, 5)", x.weigh(3, 5), 2);
        x.turn(3);
        Edge.due("weigh(3, 1) of one that is down", x.weigh(3, 1), 5);
        Edge.sentence(13, "UNKNOWN if there is no such exit;");
        Edge.unknown("weigh(n, 5)", true, (y, n) -> y.weigh(n, 5));
        Edge.unknown("weigh(n, 0)", true, (y, n) -> y.weigh(n, 0));
        Edge.refused(Makers.BUSY, "weigh(2, 6)", y -> y.weigh(2, 6), Check.UNKNOWN);
        Edge.refused(Makers.FRESH, "weigh(0, -1)", y -> y.weigh(0, -1), Check.UNKNOWN);
        Edge.sentence(13, "OUTSIDE if v is out of range.");
        int[] outside = {-1, 6, 7, Integer.MIN_VALUE, Integer.MAX_VALUE};
        for (int v : outside) {
            Edge.refused(Makers.BUSY, "weigh(0, " + v + ")", y -> y.weigh(0, v), Check.OUTSIDE);
            Edge.refused(Makers.FULL, "weigh(3, " + v + ")", y -> y.weigh(3, v), Check.OUTSIDE);
        }
    }

    private static void adding() {
        Edge.sentence(14, "Makes a router extended if it is not, and not extended if it is. This is an act.");
        HiddenExits x = Check.domain("D5");
        for (int router = 0; router < 5; router++) {
            x.add(router);
        }
        Edge.due("count(6) of all", x.count(6), 31);
        for (int router = 0; router < 5; router++) {
            x.add(router);
        }
        Edge.due("count(6) of none", x.count(6), 0);
        Edge.due("count(9)", x.count(9), 10);
        Edge.sentence(14, "Returns 1 if it is extended after that, else 0;");
        Edge.due("add(4)", x.add(4), 1);
        Edge.due("add(4)", x.add(4), 0);
        Edge.due("add(0)", x.add(0), 1);
        Edge.sentence(14, "UNKNOWN if there is no such router.");
        Edge.unknown("add", false, HiddenExits::add);
    }

    private static void modes() {
        Edge.sentence(15, "Sets the mode. This is an act.");
        HiddenExits x = new HiddenExits();
        x.setMode(2);
        Edge.due("count(7)", x.count(7), 2);
        Edge.due("count(9)", x.count(9), 1);
        // By the new mode another exit is left at the next step.
        HiddenExits mode = Check.domain("D1e0013e0012e0111");
        mode.step(0);
        Edge.due("mesh(0)", mode.mesh(0), 1);
        mode.setMode(1);
        Edge.choice(mode, 0, 0, 1, 0, 0);
        Edge.due("mesh(0)", mode.mesh(0), 2);
        mode.step(0);
        Edge.choice(mode, 0, 0, 2, 0, 0);
        Edge.sentence(15, "the new mode, 0 to 2");
        for (int v = 0; v <= 2; v++) {
            x.setMode(v);
            Edge.due("count(7)", x.count(7), v);
        }
        Edge.sentence(15, "Returns the previous mode;");
        Edge.due("setMode(0)", x.setMode(0), 2);
        Edge.due("setMode(0)", x.setMode(0), 0);
        Edge.due("setMode(1)", x.setMode(1), 0);
        Edge.due("setMode(1)", x.setMode(1), 1);
        Edge.sentence(15, "OUTSIDE if v is out of range.");
        int[] outside = {-1, 3, 4, Integer.MIN_VALUE, Integer.MAX_VALUE};
        for (int v : outside) {
            for (Edge.Maker maker : Makers.ALL) {
                Edge.refused(maker, "setMode(" + v + ")", y -> y.setMode(v), Check.OUTSIDE);
            }
        }
    }

    private static void undoing() {
        Edge.sentence(16, "Undoes the latest act: links, exits, extended routers, mode and choices become as before it.");
        for (Edge.Maker maker : new Edge.Maker[] {Makers.BUSY, Makers.FULL}) {
            Edge.Call[] acts = {x -> x.setLink(0, 1, 0), x -> x.turn(0), x -> x.weigh(1, 4), x -> x.add(0), x -> x.add(1),
                x -> x.setMode(0), x -> x.step(0), x -> x.step(2), HiddenExits::round};
            for (int k = 0; k < acts.length; k++) {
                HiddenExits before = maker.make();
                HiddenExits after = maker.make();
                acts[k].on(after);
                after.undo();
                Edge.due("all is as before act " + k, now(after).equals(now(before)) ? 1 : 0, 1);
            }
        }
        // What is no act stays: the text, the observations, the random number and the slots.
        HiddenExits x = Makers.BUSY.make();
        x.turn(0);
        x.keep(1);
        x.see(0, 0, 0);
        x.seed(8);
        x.write('1');
        x.undo();
        Edge.due("count(0)", x.count(0), 6);
        Edge.due("count(10)", x.count(10), 4);
        Edge.due("seed(0)", x.seed(0), 8);
        Edge.due("again(1)", x.again(1), 3);
        Edge.due("exit(0, 4)", x.exit(0, 4), 0);
        Edge.sentence(16, "Returns the number of acts that can still be undone;");
        HiddenExits one = Check.domain("D1");
        one.round();
        Edge.due("undo() of the only act", one.undo(), 0);
        for (int k = 0; k < 15; k++) {
            one.round();
        }
        Edge.due("undo() of the 15th act", one.undo(), 13);
        Edge.due("undo() of the 14th act", one.undo(), 12);
        Edge.sentence(16, "STATE if there is none.");
        Edge.refused(Makers.FRESH, "undo()", HiddenExits::undo, Check.STATE);
        Edge.Maker empty = () -> {
            HiddenExits y = Makers.BUSY.make();
            for (int k = 0; k < 7; k++) {
                y.undo();
            }
            return y;
        };
        Edge.due("count(9) when all are undone", empty.make().count(9), 0);
        Edge.refused(empty, "undo()", HiddenExits::undo, Check.STATE);
        Edge.Maker returned = () -> {
            HiddenExits y = Makers.FULL.make();
            y.again(1);
            return y;
        };
        Edge.refused(returned, "undo() after again(1)", HiddenExits::undo, Check.STATE);
    }

    /** The present state as far as undoing brings it back. */
    private static String now(HiddenExits x) {
        StringBuilder seen = new StringBuilder();
        for (int what = 1; what <= 8; what++) {
            seen.append(x.count(what)).append(' ');
        }
        for (int i = 0; i < x.count(1); i++) {
            for (int j = 0; j < x.count(1); j++) {
                seen.append(x.link(i, j, 0)).append(' ').append(x.link(i, j, 1)).append(' ');
            }
            for (int k = 0; k < 6; k++) {
                seen.append(x.choice(i, k / 3, k % 3)).append(' ');
            }
            seen.append(x.heard(i)).append(' ').append(x.mesh(i)).append(' ');
        }
        for (int exit = 0; exit < x.count(4); exit++) {
            seen.append(x.exit(exit, 3)).append(' ').append(x.exit(exit, 4)).append(' ');
        }
        return seen.toString();
    }
}
