/** Promises 9 to 16: steps, rounds, changes of the domain, and undoing them. */
public final class ActTest {
    /** Router 1 reflects the routes of its clients 0 and 2, which have an exit each; 0 is nearer to it. */
    private static final String STAR = "D3l012l123c10c12e0010e2010";

    public static void main(String[] args) {
        steps();
        rules();
        marks();
        rounds();
        settingLinks();
        turning();
        weighing();
        adding();
        modes();
        undoing();
        forgetting();
        Check.finish();
    }

    /** Compares the exit, the source and the marks of a choice. */
    private static void choice(int promise, HiddenExits x, int router, int second, int... want) {
        for (int what = 0; what < 3; what++) {
            String call = "choice(" + router + ", " + second + ", " + what + ")";
            Check.due(promise, call, x.choice(router, second, what), want.length == 0 ? Check.NONE : want[what]);
        }
    }

    private static void steps() {
        HiddenExits x = Check.domain(STAR);
        Check.due(9, "step(1) with nothing to hear", x.step(1), 0);
        Check.due(9, "step(2)", x.step(2), 1);
        choice(9, x, 2, 0, 1, 2, 0);
        choice(9, x, 1, 0);
        Check.due(9, "step(1)", x.step(1), 1);
        choice(9, x, 1, 0, 1, 2, 4);
        Check.due(9, "step(0)", x.step(0), 1);
        choice(9, x, 0, 0, 0, 0, 0);
        Check.due(9, "step(1)", x.step(1), 1);
        choice(9, x, 1, 0, 0, 0, 1);
        choice(9, x, 1, 1);
        Check.due(9, "step(1) once more", x.step(1), 0);
        Check.due(9, "step(2), whose own exit comes first", x.step(2), 0);
        Check.due(9, "step(3)", x.step(3), Check.UNKNOWN);
        Check.due(9, "step(-1)", x.step(-1), Check.UNKNOWN);
        Check.due(9, "count(9)", x.count(9), 7);
        x.turn(1);
        Check.due(9, "step(2) when its exit is down", x.step(2), 1);
        choice(9, x, 2, 0, 0, 1, 3);
        x.turn(0);
        Check.due(9, "step(1), which is still told the exit", x.step(1), 0);
        Check.due(9, "step(0) when its exit is down", x.step(0), 1);
        choice(9, x, 0, 0);
        Check.due(9, "step(1) when nobody tells it", x.step(1), 1);
        choice(9, x, 1, 0);
    }

    private static int firstExit(String text, int mode, int router) {
        HiddenExits x = Check.domain(text);
        x.setMode(mode);
        for (int k = 0; k < 4; k++) {
            x.round();
        }
        return x.choice(router, 0, 0);
    }

    private static void rules() {
        // 1: the path length comes before the weight, the own exit and the distance.
        Check.due(9, "the shortest path", firstExit("D2l011c01e0020e1012", 0, 0), 1);
        Check.due(9, "the shortest path, mode 1", firstExit("D2l011c01e0020e1012", 1, 0), 1);
        Check.due(9, "the shortest path, mode 2", firstExit("D2l011c01e0020e1012", 2, 0), 1);
        // 2: exits 0 and 1 have a neighbour in common, exit 2 has the smallest weight.
        String weights = "D1e0013e0012e0111";
        Check.due(9, "the weights, mode 0", firstExit(weights, 0, 0), 1);
        Check.due(9, "the weights, mode 1", firstExit(weights, 1, 0), 2);
        Check.due(9, "the weights, mode 2", firstExit(weights, 2, 0), 0);
        // Exits of three neighbours have nothing to do with each other in mode 0.
        Check.due(9, "three neighbours, mode 0", firstExit("D1e0013e0112e0211", 0, 0), 0);
        Check.due(9, "three neighbours, mode 1", firstExit("D1e0013e0112e0211", 1, 0), 2);
        Check.due(9, "neighbour 2 alone", firstExit("D1e0212e0211", 0, 0), 1);
        Check.due(9, "neighbour 1 alone", firstExit("D1e0112e0111", 0, 0), 1);
        // A route that loses by its path length does not push out another one by its weight.
        Check.due(9, "a longer path has no say", firstExit("D2l011c01e0011e1012e1020", 0, 0), 0);
        Check.due(9, "a longer path has no say, mode 1", firstExit("D1e0020e0015e0115", 1, 0), 1);
        // The weight comes before the own exit.
        Check.due(9, "a lighter exit elsewhere", firstExit("D2l019c01e0011e1010", 0, 0), 1);
        Check.due(9, "a lighter exit of another neighbour", firstExit("D2l019c01e0011e1110", 0, 0), 0);
        Check.due(9, "a lighter exit of another neighbour, mode 1", firstExit("D2l019c01e0011e1110", 1, 0), 1);
        // 3: the own exit comes before a lower one.
        Check.due(9, "the own exit", firstExit("D2l011c01e1010e0010", 0, 0), 1);
        // 4: the distance, which may lead over a third router.
        Check.due(9, "the nearest exit", firstExit("D3l019l025p01p02e1010e2010", 0, 0), 1);
        Check.due(9, "the nearest exit by the lower path cost", firstExit("D4l019l021l231l134p01p03e1010e3010", 0, 0), 1);
        Check.due(9, "distances of 6 and 7", firstExit("D4l019l022l122l037p01p03e3010e1010", 0, 0), 1);
        // 5: the lowest exit.
        Check.due(9, "the lowest exit", firstExit("D3l015l025p01p02e2010e1010", 0, 0), 0);
    }

    private static void marks() {
        // Router 3 hears exit 0 over 1 and 2 (two marks, each) and keeps the one from 1.
        HiddenExits x = Check.domain("D4l011l021l131l231c10c20c13c23e0010");
        x.round();
        x.round();
        x.step(3);
        choice(9, x, 3, 0, 0, 1, 3);
        // A shorter way wins against a lower number: 4 hears it from 0 over 1, and from 3 itself.
        HiddenExits y = Check.domain("D5l341l131l011l041c13c01c04p34e3010");
        for (int k = 0; k < 4; k++) {
            y.round();
        }
        choice(9, y, 0, 0, 0, 1, 10);
        choice(9, y, 4, 0, 0, 3, 8);
        Check.due(9, "heard(4)", y.heard(4), 1);
        // Between peers a route that was heard from a peer goes no further.
        HiddenExits z = Check.domain("D3l011l121p01p12e0010");
        z.round();
        z.round();
        Check.due(9, "step(2)", z.step(2), 0);
        Check.due(9, "tells(1, 2)", z.tells(1, 2), 0);
        // A ring of clients: the route does not come back to where it has been.
        HiddenExits ring = Check.domain("D3l011l121l021c01c12c20e0010");
        ring.round();
        ring.round();
        ring.round();
        choice(9, ring, 1, 0, 0, 0, 1);
        choice(9, ring, 2, 0, 0, 0, 1);
        ring.turn(0);
        ring.step(0);
        choice(9, ring, 0, 0);
        Check.due(9, "heard(0)", ring.heard(0), 0);
        // The others take the route from each other, but do not give it back.
        Check.due(9, "round()", ring.round(), 2);
        choice(9, ring, 1, 0, 0, 2, 5);
        choice(9, ring, 2, 0, 0, 1, 3);
        Check.due(9, "heard(0)", ring.heard(0), 0);
        Check.due(9, "round()", ring.round(), 2);
        choice(9, ring, 1, 0);
        choice(9, ring, 2, 0);
    }

    private static void rounds() {
        HiddenExits x = Check.domain(STAR);
        Check.due(10, "round()", x.round(), 2);
        choice(10, x, 1, 0);
        Check.due(10, "round()", x.round(), 1);
        choice(10, x, 1, 0, 0, 0, 1);
        Check.due(10, "round()", x.round(), 0);
        Check.due(10, "count(9)", x.count(9), 3);
        Check.due(10, "count(8)", x.count(8), 7);
        // Two that wait for each other change their minds at the same time.
        HiddenExits y = Check.domain("D4p01c02c13l029l139l031l121e2010e3010");
        y.round();
        y.round();
        Check.due(10, "round()", y.round(), 2);
        choice(10, y, 0, 0, 1, 1, 10);
        choice(10, y, 1, 0, 0, 0, 5);
        Check.due(10, "round()", y.round(), 2);
        choice(10, y, 0, 0, 0, 2, 4);
        Check.due(10, "round() of one router", new HiddenExits().round(), 0);
        // Only the second route changes.
        HiddenExits z = Check.domain("D1e0010e0020e0030");
        z.add(0);
        Check.due(10, "round()", z.round(), 1);
        choice(10, z, 0, 1, 1, 0, 0);
        z.turn(1);
        Check.due(10, "round()", z.round(), 1);
        choice(10, z, 0, 0, 0, 0, 0);
        choice(10, z, 0, 1, 2, 0, 0);
    }

    private static void settingLinks() {
        HiddenExits x = Check.domain(STAR);
        Check.due(11, "setLink(0, 1, 9)", x.setLink(0, 1, 9), 2);
        Check.due(11, "link(1, 0, 0)", x.link(1, 0, 0), 9);
        Check.due(11, "link(0, 2, 1)", x.link(0, 2, 1), 12);
        Check.due(11, "setLink(2, 0, 1)", x.setLink(2, 0, 1), 0);
        Check.due(11, "link(0, 2, 0)", x.link(0, 2, 0), 1);
        Check.due(11, "link(0, 1, 1)", x.link(0, 1, 1), 4);
        Check.due(11, "setLink(0, 2, 0)", x.setLink(0, 2, 0), 1);
        Check.due(11, "setLink(1, 2, 0)", x.setLink(1, 2, 0), 3);
        Check.due(11, "setLink(1, 2, 0) without a link", x.setLink(1, 2, 0), 0);
        Check.due(11, "link(2, 0, 1)", x.link(2, 0, 1), Check.NONE);
        Check.due(11, "count(2)", x.count(2), 1);
        Check.due(11, "count(9)", x.count(9), 5);
        Check.due(11, "setLink(3, 0, 1)", x.setLink(3, 0, 1), Check.UNKNOWN);
        Check.due(11, "setLink(0, 3, 1)", x.setLink(0, 3, 1), Check.UNKNOWN);
        Check.due(11, "setLink(-1, 0, 1)", x.setLink(-1, 0, 1), Check.UNKNOWN);
        Check.due(11, "setLink(0, -1, 10)", x.setLink(0, -1, 10), Check.UNKNOWN);
        Check.due(11, "setLink(3, 3, 1)", x.setLink(3, 3, 1), Check.UNKNOWN);
        Check.due(11, "setLink(1, 1, 1)", x.setLink(1, 1, 1), Check.OUTSIDE);
        Check.due(11, "setLink(0, 1, 10)", x.setLink(0, 1, 10), Check.OUTSIDE);
        Check.due(11, "setLink(0, 1, -1)", x.setLink(0, 1, -1), Check.OUTSIDE);
        Check.due(11, "count(9)", x.count(9), 5);
        Check.due(11, "link(0, 1, 0)", x.link(0, 1, 0), 9);
        // The links count at the next step, and choices stay until then.
        HiddenExits y = Check.domain(STAR);
        y.round();
        y.round();
        y.setLink(0, 1, 4);
        choice(11, y, 1, 0, 0, 0, 1);
        Check.due(11, "step(1)", y.step(1), 1);
        choice(11, y, 1, 0, 1, 2, 4);
    }

    private static void turning() {
        HiddenExits x = Check.domain(STAR);
        Check.due(12, "turn(0)", x.turn(0), 0);
        Check.due(12, "count(5)", x.count(5), 2);
        Check.due(12, "turn(1)", x.turn(1), 0);
        Check.due(12, "round()", x.round(), 0);
        Check.due(12, "turn(0)", x.turn(0), 1);
        Check.due(12, "exit(0, 4)", x.exit(0, 4), 1);
        Check.due(12, "round()", x.round(), 1);
        Check.due(12, "turn(2)", x.turn(2), Check.UNKNOWN);
        Check.due(12, "turn(-1)", x.turn(-1), Check.UNKNOWN);
        Check.due(12, "turn(32)", x.turn(32), Check.UNKNOWN);
        Check.due(12, "count(9)", x.count(9), 5);
        Check.due(12, "turn(0)", x.turn(0), 0);
        choice(12, x, 0, 0, 0, 0, 0);
    }

    private static void weighing() {
        HiddenExits x = Check.domain("D2l011c01e0013e1012");
        x.round();
        x.round();
        choice(13, x, 0, 0, 1, 1, 2);
        Check.due(13, "weigh(0, 0)", x.weigh(0, 0), 3);
        Check.due(13, "exit(0, 3)", x.exit(0, 3), 0);
        choice(13, x, 0, 0, 1, 1, 2);
        Check.due(13, "step(0)", x.step(0), 1);
        choice(13, x, 0, 0, 0, 0, 0);
        Check.due(13, "weigh(0, 5)", x.weigh(0, 5), 0);
        Check.due(13, "weigh(0, 5)", x.weigh(0, 5), 5);
        Check.due(13, "weigh(2, 0)", x.weigh(2, 0), Check.UNKNOWN);
        Check.due(13, "weigh(-1, 6)", x.weigh(-1, 6), Check.UNKNOWN);
        Check.due(13, "weigh(0, 6)", x.weigh(0, 6), Check.OUTSIDE);
        Check.due(13, "weigh(0, -1)", x.weigh(0, -1), Check.OUTSIDE);
        Check.due(13, "exit(0, 3)", x.exit(0, 3), 5);
        Check.due(13, "count(9)", x.count(9), 6);
    }

    private static void adding() {
        HiddenExits x = Check.domain(STAR);
        x.round();
        Check.due(14, "add(1)", x.add(1), 1);
        Check.due(14, "count(6)", x.count(6), 2);
        choice(14, x, 1, 1);
        Check.due(14, "step(1)", x.step(1), 1);
        choice(14, x, 1, 0, 0, 0, 1);
        choice(14, x, 1, 1, 1, 2, 4);
        // It tells router 0 the second route, as router 0 is a client.
        Check.due(14, "heard(0)", x.heard(0), 3);
        Check.due(14, "add(0)", x.add(0), 1);
        Check.due(14, "step(0)", x.step(0), 1);
        choice(14, x, 0, 1, 1, 1, 6);
        Check.due(14, "add(1)", x.add(1), 0);
        choice(14, x, 1, 0, 0, 0, 1);
        choice(14, x, 1, 1);
        Check.due(14, "heard(0)", x.heard(0), 1);
        Check.due(14, "count(6)", x.count(6), 1);
        choice(14, x, 0, 1, 1, 1, 6);
        Check.due(14, "step(0)", x.step(0), 1);
        choice(14, x, 0, 1);
        Check.due(14, "add(3)", x.add(3), Check.UNKNOWN);
        Check.due(14, "add(-1)", x.add(-1), Check.UNKNOWN);
        Check.due(14, "count(9)", x.count(9), 7);
        Check.due(14, "add(1)", x.add(1), 1);
        choice(14, x, 1, 1);
        HiddenExits last = Check.domain("D5l341c34e4010e3020");
        last.step(3);
        last.step(4);
        last.add(4);
        last.step(4);
        choice(14, last, 4, 0, 0, 4, 0);
        choice(14, last, 4, 1, 1, 3, 8);
        last.add(4);
        choice(14, last, 4, 0, 0, 4, 0);
        choice(14, last, 4, 1);
        // The second route is chosen by the same rules among the others.
        HiddenExits y = Check.domain("D1e0013e0012e0111");
        y.add(0);
        y.step(0);
        choice(14, y, 0, 0, 1, 0, 0);
        choice(14, y, 0, 1, 0, 0, 0);
        y.setMode(1);
        y.step(0);
        choice(14, y, 0, 0, 2, 0, 0);
        choice(14, y, 0, 1, 1, 0, 0);
    }

    private static void modes() {
        HiddenExits x = Check.domain("D1e0013e0012e0111");
        Check.due(15, "setMode(1)", x.setMode(1), 0);
        Check.due(15, "count(7)", x.count(7), 1);
        x.step(0);
        choice(15, x, 0, 0, 2, 0, 0);
        Check.due(15, "setMode(2)", x.setMode(2), 1);
        choice(15, x, 0, 0, 2, 0, 0);
        x.step(0);
        choice(15, x, 0, 0, 0, 0, 0);
        Check.due(15, "setMode(0)", x.setMode(0), 2);
        x.step(0);
        choice(15, x, 0, 0, 1, 0, 0);
        Check.due(15, "setMode(3)", x.setMode(3), Check.OUTSIDE);
        Check.due(15, "setMode(-1)", x.setMode(-1), Check.OUTSIDE);
        Check.due(15, "count(7)", x.count(7), 0);
        Check.due(15, "count(9)", x.count(9), 6);
    }

    private static void undoing() {
        HiddenExits x = Check.domain(STAR);
        x.add(1);
        x.round();
        x.round();
        x.setLink(0, 1, 9);
        x.turn(0);
        x.weigh(1, 5);
        x.setMode(2);
        x.step(1);
        x.add(1);
        x.step(0);
        choice(16, x, 1, 0, 1, 2, 4);
        Check.due(16, "undo() of step(0)", x.undo(), 9);
        choice(16, x, 0, 0, 0, 0, 0);
        Check.due(16, "undo() of add(1)", x.undo(), 8);
        Check.due(16, "count(6)", x.count(6), 2);
        choice(16, x, 1, 1, 0, 0, 1);
        Check.due(16, "undo() of step(1)", x.undo(), 7);
        choice(16, x, 1, 0, 0, 0, 1);
        choice(16, x, 1, 1, 1, 2, 4);
        Check.due(16, "undo() of setMode(2)", x.undo(), 6);
        Check.due(16, "count(7)", x.count(7), 0);
        Check.due(16, "undo() of weigh(1, 5)", x.undo(), 5);
        Check.due(16, "exit(1, 3)", x.exit(1, 3), 0);
        Check.due(16, "undo() of turn(0)", x.undo(), 4);
        Check.due(16, "count(5)", x.count(5), 3);
        Check.due(16, "link(0, 1, 1)", x.link(0, 1, 1), 9);
        Check.due(16, "undo() of setLink(0, 1, 9)", x.undo(), 3);
        Check.due(16, "link(0, 1, 1)", x.link(0, 1, 1), 2);
        Check.due(16, "undo() of round()", x.undo(), 2);
        choice(16, x, 1, 0);
        choice(16, x, 0, 0, 0, 0, 0);
        Check.due(16, "undo() of round()", x.undo(), 1);
        choice(16, x, 0, 0);
        Check.due(16, "undo() of add(1)", x.undo(), 0);
        Check.due(16, "count(6)", x.count(6), 0);
        Check.due(16, "undo()", x.undo(), Check.STATE);
        // What an undone change had brought about is forgotten: the distances and the rules, too.
        HiddenExits y = Check.domain(STAR);
        y.round();
        y.setLink(0, 1, 9);
        y.step(1);
        choice(16, y, 1, 0, 1, 2, 4);
        y.undo();
        y.undo();
        y.step(1);
        choice(16, y, 1, 0, 0, 0, 1);
    }

    private static void forgetting() {
        HiddenExits x = Check.domain("D2l011e0010");
        for (int c = 2; c <= 9; c++) {
            x.setLink(0, 1, c);
        }
        for (int v = 0; v <= 5; v++) {
            x.weigh(0, v);
        }
        Check.due(16, "count(9) after 14 acts", x.count(9), 14);
        x.turn(0);
        x.turn(0);
        x.setMode(1);
        Check.due(16, "count(9) after 17 acts", x.count(9), 14);
        for (int left = 13; left >= 0; left--) {
            Check.due(16, "undo()", x.undo(), left);
        }
        Check.due(16, "undo()", x.undo(), Check.STATE);
        // Three acts could not be undone any more: the costs 2, 3 and 4.
        Check.due(16, "link(0, 1, 0)", x.link(0, 1, 0), 4);
        Check.due(16, "exit(0, 3)", x.exit(0, 3), 0);
        x.turn(0);
        Check.due(16, "undo()", x.undo(), 0);
        Check.due(16, "count(5)", x.count(5), 1);
        for (int k = 0; k < 40; k++) {
            x.weigh(0, k % 6);
            if (k % 3 == 2) {
                Check.due(16, "exit(0, 3)", x.exit(0, 3), k % 6);
                x.undo();
                Check.due(16, "exit(0, 3)", x.exit(0, 3), (k - 1) % 6);
            }
        }
        Check.due(16, "count(9)", x.count(9), 14);
        // Neither errors nor queries are acts.
        HiddenExits y = Check.domain("D2l011e0010");
        y.step(7);
        y.turn(7);
        y.setMode(7);
        y.run(0, 0);
        y.judge(1, 1000);
        y.drawn(3);
        y.keep(0);
        y.see(0, 0, 1);
        Check.due(16, "undo()", y.undo(), Check.STATE);
    }
}
