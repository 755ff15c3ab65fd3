/** The edges of links, sessions, exits, choices, what routers hear and tell, and packets: promises 6 to 8, 17 to 21. */
final class ChoiceEdges {
    private ChoiceEdges() {
    }

    static void check() {
        links();
        sessions();
        exits();
        choices();
        hearing();
        telling();
        mesh();
        packets();
        circles();
    }

    private static void links() {
        Edge.sentence(6, "a router, possibly the same");
        HiddenExits x = Check.domain("D5l011");
        Edge.due("link(4, 4, 0)", x.link(4, 4, 0), 0);
        Edge.due("link(4, 4, 1)", x.link(4, 4, 1), 0);
        Edge.sentence(6, "0: the cost of their link (0 if there is none); 1: the distance from i to j (NONE if there is none)");
        Edge.due("link(0, 1, 0)", x.link(0, 1, 0), 1);
        Edge.due("link(1, 0, 1)", x.link(1, 0, 1), 1);
        Edge.due("link(0, 4, 0)", x.link(0, 4, 0), 0);
        Edge.due("link(0, 4, 1)", x.link(0, 4, 1), Check.NONE);
        // There is a distance without a link, and a distance that is less than the cost of the link.
        HiddenExits y = Check.domain("D3l019l122l203");
        y.setLink(0, 1, 6);
        Edge.due("link(0, 1, 0)", y.link(0, 1, 0), 6);
        Edge.due("link(0, 1, 1)", y.link(0, 1, 1), 5);
        y.setLink(0, 1, 0);
        Edge.due("link(0, 1, 0) without a link", y.link(0, 1, 0), 0);
        Edge.due("link(0, 1, 1) without a link", y.link(0, 1, 1), 5);
        Edge.sentence(6, "UNKNOWN if there is no such router (either one);");
        for (int what = 0; what <= 2; what++) {
            int w = what;
            Edge.unknown("link(n, 0, " + w + ")", false, (z, n) -> w == 2 && n >= 0 && n < z.count(1) ? 0 : z.link(n, 0, w));
            Edge.unknown("link(0, n, " + w + ")", false, (z, n) -> w == 2 && n >= 0 && n < z.count(1) ? 0 : z.link(0, n, w));
        }
        Edge.sentence(6, "OUTSIDE if what is neither 0 nor 1.");
        Edge.range("link(0, 1, n)", 0, 1, (z, n) -> z.link(0, 1, n));
        Edge.range("link(2, 2, n)", 0, 1, (z, n) -> z.link(2, 2, n));
    }

    private static void sessions() {
        Edge.sentence(7, "a router, possibly the same");
        HiddenExits x = Check.domain("D5p43c24");
        Edge.due("session(4, 4)", x.session(4, 4), 0);
        Edge.sentence(7, "Returns 0: none (also for i = j); 1: they are peers; 2: j is a client of i; 3: i is a client of j;");
        int[][] want = {{0, 0, 0, 0, 0}, {0, 0, 0, 0, 0}, {0, 0, 0, 0, 2}, {0, 0, 0, 0, 1}, {0, 0, 3, 1, 0}};
        for (int i = 0; i < 5; i++) {
            for (int j = 0; j < 5; j++) {
                Edge.due("session(" + i + ", " + j + ")", x.session(i, j), want[i][j]);
            }
        }
        Edge.sentence(7, "UNKNOWN if there is no such router (either one).");
        Edge.unknown("session(n, 0)", false, (y, n) -> y.session(n, 0));
        Edge.unknown("session(0, n)", false, (y, n) -> y.session(0, n));
        Edge.refused(Makers.BUSY, "session(3, 3)", y -> y.session(3, 3), Check.UNKNOWN);
    }

    private static void exits() {
        Edge.sentence(8, "0: its router; 1: neighbour; 2: path length; 3: weight; 4: 1 if it is up, else 0");
        HiddenExits x = Check.domain("D5e0010e4255e1120e2234");
        int[][] want = {{0, 0, 1, 0, 1}, {4, 2, 5, 5, 1}, {1, 1, 2, 0, 1}, {2, 2, 3, 4, 1}};
        for (int k = 0; k < 20; k++) {
            Edge.due("exit(" + k / 5 + ", " + k % 5 + ")", x.exit(k / 5, k % 5), want[k / 5][k % 5]);
        }
        x.turn(3);
        x.weigh(3, 0);
        Edge.due("exit(3, 4) when it is down", x.exit(3, 4), 0);
        Edge.due("exit(3, 3)", x.exit(3, 3), 0);
        Edge.due("exit(3, 2)", x.exit(3, 2), 3);
        Edge.sentence(8, "UNKNOWN if there is no such exit;");
        Edge.unknown("exit(n, 0)", true, (y, n) -> y.exit(n, 0));
        Edge.unknown("exit(n, 4)", true, (y, n) -> y.exit(n, 4));
        Edge.refused(Makers.FRESH, "exit(0, 5)", y -> y.exit(0, 5), Check.UNKNOWN);
        Edge.refused(Makers.BUSY, "exit(2, -1)", y -> y.exit(2, -1), Check.UNKNOWN);
        Edge.sentence(8, "OUTSIDE if what is out of range.");
        Edge.range("exit(1, n)", 0, 4, (y, n) -> y.exit(1, n));
    }

    private static void choices() {
        Edge.sentence(17, "0: its first route; 1: its second route");
        HiddenExits x = Check.domain(Makers.STAR);
        x.add(1);
        Edge.rounds(x, 2);
        Edge.due("choice(1, 0, 0)", x.choice(1, 0, 0), 0);
        Edge.due("choice(1, 1, 0)", x.choice(1, 1, 0), 1);
        Edge.sentence(17, "0: the exit; 1: the router from which it was heard; 2: the set of its marks");
        Edge.choice(x, 1, 0, 0, 0, 1);
        Edge.choice(x, 1, 1, 1, 2, 4);
        Edge.choice(x, 2, 0, 1, 2, 0);
        Edge.sentence(17, "NONE if the router has no such route;");
        Edge.choice(x, 0, 1);
        Edge.choice(new HiddenExits(), 0, 0);
        Edge.choice(new HiddenExits(), 0, 1);
        Edge.sentence(17, "UNKNOWN if there is no such router;");
        Edge.unknown("choice(n, 0, 0)", false, (y, n) -> y.choice(n, 0, 0));
        Edge.unknown("choice(n, 1, 2)", false, (y, n) -> y.choice(n, 1, 2));
        Edge.refused(Makers.BUSY, "choice(3, 2, 3)", y -> y.choice(3, 2, 3), Check.UNKNOWN);
        Edge.refused(Makers.FRESH, "choice(-1, 0, -1)", y -> y.choice(-1, 0, -1), Check.UNKNOWN);
        Edge.sentence(17, "OUTSIDE if second or what is out of range.");
        Edge.range("choice(1, n, 0)", 0, 1, (y, n) -> y.choice(1, n, 0));
        Edge.range("choice(1, 0, n)", 0, 2, (y, n) -> y.choice(1, 0, n));
        Edge.range("choice(0, 1, n), without a route", 0, 2, (y, n) -> y.choice(0, 1, n));
        Edge.refused(Makers.FRESH, "choice(0, 2, 0)", y -> y.choice(0, 2, 0), Check.OUTSIDE);
    }

    private static void hearing() {
        Edge.sentence(18, "Returns the exits of all routes that a router hears now.");
        HiddenExits x = Check.domain(Makers.STAR);
        Edge.due("heard(1) before a step", x.heard(1), 0);
        x.step(0);
        Edge.due("heard(1) after one", x.heard(1), 1);
        x.step(2);
        Edge.due("heard(1) after two", x.heard(1), 3);
        // A route is heard, though it is not chosen.
        x.step(1);
        Edge.due("heard(1)", x.heard(1), 3);
        Edge.sentence(18, "Returns the set of these exits, its own ones included;");
        HiddenExits y = Check.domain("D2l011c01e0010e0020e1050e1050");
        Edge.rounds(y, 2);
        Edge.due("heard(0)", y.heard(0), 3);
        Edge.due("heard(1)", y.heard(1), 13);
        y.add(0);
        y.step(0);
        Edge.due("heard(1) of all four", y.heard(1), 15);
        Edge.due("heard(0) without exits", new HiddenExits().heard(0), 0);
        Edge.sentence(18, "UNKNOWN if there is no such router.");
        Edge.unknown("heard", false, HiddenExits::heard);
    }

    private static void telling() {
        Edge.sentence(19, "Tells whether a router tells another one its first route.");
        HiddenExits x = Check.domain("D3l011l021p01c02e1010e2020");
        x.add(0);
        Edge.rounds(x, 2);
        Edge.due("choice(0, 1, 0)", x.choice(0, 1, 0), 1);
        Edge.due("tells(0, 1), which hears the second one only", x.tells(0, 1), 0);
        Edge.due("tells(0, 2)", x.tells(0, 2), 1);
        Edge.sentence(19, "Returns 1 if it does;");
        Edge.due("tells(1, 0)", x.tells(1, 0), 1);
        x.turn(0);
        x.setLink(0, 1, 0);
        Edge.due("tells(1, 0), which can't hear it", x.tells(1, 0), 1);
        Edge.due("heard(0)", x.heard(0), 2);
        Edge.sentence(19, "0 if it does not, also if they have no session, there is no first route, or both are the same;");
        Edge.due("tells(0, 1), from whom it was heard", x.tells(0, 1), 0);
        Edge.due("tells(1, 2) without a session", x.tells(1, 2), 0);
        Edge.due("tells(2, 1) without a session", x.tells(2, 1), 0);
        Edge.due("tells(1, 1)", x.tells(1, 1), 0);
        Edge.due("tells(0, 0)", new HiddenExits().tells(0, 0), 0);
        Edge.due("tells(0, 1) without a route", Check.domain("D2p01").tells(0, 1), 0);
        Edge.due("tells(0, 1) of a client without a route", Check.domain("D2c01").tells(0, 1), 0);
        HiddenExits own = Check.domain("D5e4010");
        own.step(4);
        Edge.due("tells(4, 4) of an own exit", own.tells(4, 4), 0);
        Edge.sentence(19, "UNKNOWN if there is no such router (either one).");
        Edge.unknown("tells(n, 0)", false, (y, n) -> y.tells(n, 0));
        Edge.unknown("tells(0, n)", false, (y, n) -> y.tells(0, n));
        Edge.refused(Makers.BUSY, "tells(3, 3)", y -> y.tells(3, 3), Check.UNKNOWN);
    }

    private static void mesh() {
        Edge.sentence(20, "Returns the exit of the first route that a router would choose if it heard the routes with all"
            + " exits that are up directly from their routers (except those to which there is no distance).");
        // There are no sessions and no choices.
        HiddenExits x = Check.domain("D4l012l123e0010e2010e3010");
        int[] want = {0, 0, 1, 2};
        for (int router = 0; router < 4; router++) {
            Edge.due("mesh(" + router + ")", x.mesh(router), want[router]);
        }
        x.turn(0);
        Edge.due("mesh(0) when its exit is down", x.mesh(0), 1);
        x.setLink(1, 2, 0);
        Edge.due("mesh(0) when there is no distance any more", x.mesh(0), Check.NONE);
        x.setLink(0, 3, 9);
        Edge.due("mesh(0) when there is another one", x.mesh(0), 2);
        Edge.due("mesh(1) over two links", x.mesh(1), 2);
        HiddenExits y = Check.domain("D2l011e0020e1010e0010");
        Edge.due("mesh(0), where the own exit comes first", y.mesh(0), 2);
        Edge.due("mesh(1)", y.mesh(1), 1);
        y.turn(2);
        Edge.due("mesh(0), where the path is shorter", y.mesh(0), 1);
        HiddenExits modes = Check.domain("D1e0013e0012e0111");
        for (int mode = 0; mode <= 2; mode++) {
            modes.setMode(mode);
            Edge.due("mesh(0) in mode " + mode, modes.mesh(0), (mode + 1) % 3);
        }
        Edge.sentence(20, "NONE if there is none;");
        Edge.due("mesh(0) without exits", new HiddenExits().mesh(0), Check.NONE);
        Edge.due("mesh(1) without a distance", Check.domain("D2p01e0010").mesh(1), Check.NONE);
        HiddenExits down = Check.domain("D1e0010");
        down.step(0);
        down.turn(0);
        Edge.due("mesh(0) when all are down", down.mesh(0), Check.NONE);
        Edge.sentence(20, "UNKNOWN if there is no such router.");
        Edge.unknown("mesh", false, HiddenExits::mesh);
    }

    private static void leaves(HiddenExits x, int router, int exit, int links) {
        Edge.due("leaves(" + router + ", 0)", x.leaves(router, 0), exit);
        Edge.due("leaves(" + router + ", 1)", x.leaves(router, 1), links);
    }

    private static void packets() {
        Edge.sentence(21, "It is at this router at first. Where it is, it leaves by the exit of the first route of that router,"
            + " if this exit is there;");
        HiddenExits x = Check.domain(Makers.STAR);
        Edge.rounds(x, 2);
        leaves(x, 0, 0, 0);
        leaves(x, 2, 1, 0);
        x.turn(0);
        leaves(x, 0, 0, 0);
        leaves(x, 1, 0, 1);
        Edge.sentence(21, "otherwise it goes over the link to the router with which the cost of the link plus the distance from"
            + " there to the router of the exit is smallest, of several the one with the lowest number.");
        // From 0 to exit 0 at 3 over 1 or over 2; at 1 there is another exit, by which the packet leaves.
        HiddenExits y = Check.domain("D4l012l023l134l233p03e3010e1010");
        y.step(3);
        y.step(1);
        y.step(0);
        leaves(y, 0, 1, 1);
        y.setLink(0, 2, 2);
        leaves(y, 0, Check.NONE, Check.NONE);
        y.setLink(0, 1, 1);
        leaves(y, 0, 1, 1);
        HiddenExits direct = Check.domain("D3l013l021l122c10c12e1010");
        Edge.rounds(direct, 2);
        leaves(direct, 0, 0, 1);
        direct.setLink(0, 1, 4);
        leaves(direct, 0, 0, 2);
        // The same cost by way of router 1, which is the target, and router 2: the lower one.
        HiddenExits target = Check.domain("D3l023l011l122c20c21e2010");
        Edge.rounds(target, 2);
        leaves(target, 0, 0, 2);
        target.setLink(0, 2, 2);
        leaves(target, 0, 0, 1);
        Edge.sentence(21, "0: the exit by which it leaves; 1: over how many links it goes");
        HiddenExits line = Check.domain("D5l011l121l231l341c01c02c03c04e0050e0050e0050e4010");
        Edge.rounds(line, 3);
        for (int router = 0; router < 5; router++) {
            leaves(line, router, 3, 4 - router);
        }
        Edge.sentence(21, "UNKNOWN if there is no such router;");
        Edge.unknown("leaves(n, 0)", false, (z, n) -> z.leaves(n, 0));
        Edge.unknown("leaves(n, 1)", false, (z, n) -> z.leaves(n, 1));
        Edge.refused(Makers.BUSY, "leaves(3, 2)", z -> z.leaves(3, 2), Check.UNKNOWN);
        Edge.sentence(21, "OUTSIDE if what is neither 0 nor 1.");
        Edge.range("leaves(1, n)", 0, 1, (z, n) -> z.leaves(1, n));
        Edge.refused(Makers.FRESH, "leaves(0, 2) without a route", z -> z.leaves(0, 2), Check.OUTSIDE);
        Edge.refused(Makers.FRESH, "leaves(0, -1) without a route", z -> z.leaves(0, -1), Check.OUTSIDE);
    }

    private static void circles() {
        Edge.sentence(21, "NONE if a router where it comes has no first route, or there is no distance to the router of its exit,"
            + " or the packet has gone over 6 links (wherever it is then);");
        HiddenExits none = Check.domain(Makers.STAR);
        leaves(none, 0, Check.NONE, Check.NONE);
        Edge.rounds(none, 2);
        none.setLink(0, 1, 0);
        leaves(none, 1, Check.NONE, Check.NONE);
        leaves(none, 0, 0, 0);
        // On the way, at router 1, there is no route.
        HiddenExits way = Check.domain("D3l011l121p02e2010");
        Edge.rounds(way, 2);
        leaves(way, 0, Check.NONE, Check.NONE);
        // On the way there is a route, but no distance: router 1 still has the one to exit 1, which is cut off.
        HiddenExits cut = Check.domain("D4l011l121l131p02p13e2010e3010");
        cut.step(2);
        cut.step(3);
        cut.step(0);
        cut.step(1);
        leaves(cut, 0, 1, 2);
        cut.setLink(1, 3, 0);
        leaves(cut, 0, Check.NONE, Check.NONE);
        // Router 1 sends to exit 1 over router 2, which sends to exit 0 over router 1.
        HiddenExits circle = Check.domain("D4l011l121l231p13p20e0010e3010");
        Edge.rounds(circle, 2);
        leaves(circle, 1, Check.NONE, Check.NONE);
        leaves(circle, 2, Check.NONE, Check.NONE);
        leaves(circle, 0, 0, 0);
        leaves(circle, 3, 1, 0);
    }
}
