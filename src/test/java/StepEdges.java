/** The edges of what the document's description says of distances, routes, steps and rounds. */
final class StepEdges {
    private StepEdges() {
    }

    static void check() {
        distances();
        settings();
        choices();
        telling();
        hearing();
        considering();
        paths();
        weights();
        nearness();
        seconds();
        rounds();
    }

    /** The exit of the first route of a router after some rounds. */
    private static int firstExit(String text, int mode, int router) {
        HiddenExits x = Check.domain(text);
        x.setMode(mode);
        Edge.rounds(x, 4);
        return x.choice(router, 0, 0);
    }

    private static void distances() {
        Edge.sentence(0, "The distance from a router to another one is the least sum of costs of the links of a path"
            + " between them; that of a router to itself is 0; there may be none.");
        HiddenExits line = Check.domain("D5l049l439l329l219");
        Edge.due("link(0, 1, 1), the greatest one there can be", line.link(0, 1, 1), 36);
        Edge.due("link(1, 0, 1)", line.link(1, 0, 1), 36);
        HiddenExits ring = Check.domain("D5l019l121l231l341l401");
        Edge.due("link(0, 1, 1) over four links", ring.link(0, 1, 1), 4);
        Edge.due("link(0, 1, 1) of two ways", Check.domain("D3l013l022l211").link(0, 1, 1), 3);
        for (int router = 0; router < 5; router++) {
            Edge.due("link(" + router + ", the same, 1)", ring.link(router, router, 1), 0);
        }
        HiddenExits apart = Check.domain("D5l011l231");
        Edge.due("link(0, 2, 1)", apart.link(0, 2, 1), Check.NONE);
        Edge.due("link(3, 1, 1)", apart.link(3, 1, 1), Check.NONE);
        Edge.due("link(4, 0, 1)", apart.link(4, 0, 1), Check.NONE);
        Edge.due("link(4, 4, 1) of one that stands alone", apart.link(4, 4, 1), 0);
        Edge.sentence(0, "Two routers can have a session, as peers, or so that one is a client of the other one.");
        HiddenExits x = Check.domain("D5p01c02");
        Edge.due("session(0, 1)", x.session(0, 1), 1);
        Edge.due("session(0, 2)", x.session(0, 2), 2);
        Edge.due("session(2, 0)", x.session(2, 0), 3);
        Edge.due("session(0, 3)", x.session(0, 3), 0);
    }

    private static void settings() {
        Edge.sentence(0, "Routers can be extended (so that they tell a second route).");
        HiddenExits x = Check.domain("D2l011c01e0010e0020");
        x.step(0);
        Edge.due("heard(1)", x.heard(1), 1);
        x.add(0);
        x.step(0);
        Edge.due("heard(1) of an extended router", x.heard(1), 3);
        Edge.sentence(0, "The mode is 0, 1 or 2.");
        Edge.due("setMode(-1)", x.setMode(-1), Check.OUTSIDE);
        Edge.due("setMode(2)", x.setMode(2), 0);
        Edge.due("setMode(1)", x.setMode(1), 2);
        Edge.due("setMode(0)", x.setMode(0), 1);
        Edge.due("setMode(3)", x.setMode(3), Check.OUTSIDE);
        Edge.due("count(7)", x.count(7), 0);
        Edge.sentence(0, "Sets of routers or exits are ints in which bit k stands for number k.");
        HiddenExits y = Check.domain("D5e0010e0010e0010e4010");
        for (int exit = 0; exit < 4; exit++) {
            y.turn(exit);
            Edge.due("count(5) without exit " + exit, y.count(5), 15 - (1 << exit));
            y.turn(exit);
        }
        for (int router = 0; router < 5; router++) {
            y.add(router);
            Edge.due("count(6) with router " + router, y.count(6), 1 << router);
            y.add(router);
        }
        y.step(4);
        Edge.due("count(8)", y.count(8), 16);
        Edge.due("heard(4)", y.heard(4), 8);
        Edge.due("heard(0)", y.heard(0), 7);
    }

    private static void choices() {
        Edge.sentence(0, "A route consists of an exit, the router from which it was heard, and marks, a set of routers.");
        HiddenExits x = Check.domain("D5l011l121l231l341c01c12c23c34e0010e0010e0010e0015");
        x.turn(0);
        x.turn(1);
        x.turn(2);
        Edge.rounds(x, 5);
        int[][] want = {{3, 0, 0}, {3, 0, 1}, {3, 1, 3}, {3, 2, 7}, {3, 3, 15}};
        for (int router = 0; router < 5; router++) {
            Edge.choice(x, router, 0, want[router]);
        }
        HiddenExits y = Check.domain("D5l431l321l211l101c43c32c21c10e4010");
        Edge.rounds(y, 5);
        Edge.choice(y, 0, 0, 0, 1, 30);
        Edge.choice(y, 1, 0, 0, 2, 28);
        Edge.sentence(0, "A router has a first route, or none; and if it is extended, possibly a second route.");
        HiddenExits z = Check.domain("D1e0010e0010");
        Edge.choice(z, 0, 0);
        z.step(0);
        Edge.choice(z, 0, 0, 0, 0, 0);
        Edge.choice(z, 0, 1);
        z.add(0);
        Edge.choice(z, 0, 1);
        z.step(0);
        Edge.choice(z, 0, 1, 1, 0, 0);
        z.turn(0);
        z.step(0);
        Edge.choice(z, 0, 0, 1, 0, 0);
        Edge.choice(z, 0, 1);
        z.turn(1);
        z.step(0);
        Edge.choice(z, 0, 0);
        Edge.choice(z, 0, 1);
    }

    private static void told(String text, int[] steps, int... want) {
        HiddenExits x = Check.domain(text);
        for (int router : steps) {
            x.step(router);
        }
        for (int other = 0; other < want.length; other++) {
            Edge.due("tells(0, " + other + ") of " + text, x.tells(0, other), want[other]);
        }
    }

    private static void telling() {
        Edge.sentence(0, "A router j tells a router i, with which it has a session, a route among its choices that it has"
            + " not heard from i itself, if j has it from itself (it is an exit at j), or from a client of j, or if i is a"
            + " client of j.");
        // Router 0 has the client 1, the peer 2, and is a client of 3; with router 4 it has no session.
        String text = "D5l011l021l031l041c01p02c30e";
        told(text + "0010", new int[] {0}, 0, 1, 1, 1, 0);
        told(text + "1010", new int[] {1, 0}, 0, 0, 1, 1, 0);
        told(text + "2010", new int[] {2, 0}, 0, 1, 0, 0, 0);
        told(text + "3010", new int[] {3, 0}, 0, 1, 0, 0, 0);
        told(text + "4010", new int[] {4, 0}, 0, 0, 0, 0, 0);
        // Two clients: what one tells is told the other one, but not the one from whom it comes.
        told("D4l011l021l031c01c02p03e2010", new int[] {2, 0}, 0, 1, 0, 1);
        // Two whose client it is, and two peers: nothing goes from one to the other.
        told("D4l011l021l031c10c20p03e2010", new int[] {2, 0}, 0, 0, 0, 0);
        told("D3l011l021p01p02e2010", new int[] {2, 0}, 0, 0, 0);
        // A second route is told by the same rule: here the first one stays, and the second one goes to the peer.
        HiddenExits x = Check.domain("D3l011l021p01c02e1010e2020");
        x.add(0);
        Edge.rounds(x, 2);
        Edge.due("tells(0, 1)", x.tells(0, 1), 0);
        Edge.due("heard(1)", x.heard(1), 3);
    }

    private static void hearing() {
        Edge.sentence(0, "for each exit at i that is up, the route with this exit, from i itself, without marks;");
        HiddenExits x = Check.domain("D2e0010e0020e1010e0030");
        Edge.due("heard(0)", x.heard(0), 11);
        x.turn(3);
        Edge.due("heard(0) when one is down", x.heard(0), 3);
        x.step(0);
        Edge.choice(x, 0, 0, 0, 0, 0);
        x.turn(0);
        x.turn(1);
        Edge.due("heard(0) when all are down", x.heard(0), 0);
        Edge.due("heard(1)", x.heard(1), 4);
        Edge.sentence(0, "for each router j with which it has a session, and each route that j tells it, the route with the"
            + " same exit, from j, and with the marks that it has at j and j in addition; but not if i is one of these marks,"
            + " or there is no distance from i to the router of the exit.");
        // In a ring of clients the route comes back to where it has been, is told, and not heard.
        HiddenExits ring = Check.domain("D3l011l121l021c01c12c20e0010");
        ring.step(0);
        ring.step(1);
        ring.turn(0);
        ring.step(0);
        ring.step(2);
        Edge.choice(ring, 2, 0, 0, 1, 3);
        Edge.due("tells(2, 0)", ring.tells(2, 0), 1);
        Edge.due("heard(0), which is one of the marks", ring.heard(0), 0);
        Edge.due("tells(1, 2)", ring.tells(1, 2), 1);
        Edge.due("heard(2), which is none of them", ring.heard(2), 1);
        HiddenExits far = Check.domain("D5l019l129l239l349c04e0010");
        far.step(0);
        Edge.due("heard(4) at the greatest distance", far.heard(4), 1);
        far.setLink(2, 3, 0);
        Edge.due("tells(0, 4) without a distance", far.tells(0, 4), 1);
        Edge.due("heard(4) without a distance", far.heard(4), 0);
        // The distance counts from the hearer to the exit, not to the teller, which here is cut off.
        HiddenExits cut = Check.domain("D3l021c10c12e0010");
        cut.step(0);
        Edge.due("heard(1), which is cut off itself", cut.heard(1), 0);
        cut.setLink(0, 1, 1);
        cut.step(1);
        cut.setLink(0, 1, 0);
        Edge.choice(cut, 1, 0, 0, 0, 1);
        Edge.due("heard(2) from a teller without a link", cut.heard(2), 1);
        Edge.sentence(0, "(A route may be told as long as it is a choice, even if its exit is down by now.)");
        HiddenExits y = Check.domain("D2l011c01e0010");
        y.step(0);
        y.turn(0);
        Edge.due("tells(0, 1)", y.tells(0, 1), 1);
        Edge.due("step(1)", y.step(1), 1);
        Edge.choice(y, 1, 0, 0, 0, 1);
        y.step(0);
        Edge.due("tells(0, 1) when it is no choice any more", y.tells(0, 1), 0);
        Edge.due("heard(1)", y.heard(1), 0);
    }

    private static void considering() {
        Edge.sentence(0, "Of the routes that it hears with the same exit, it considers the one with the fewest marks, of"
            + " several the one from the router with the lowest number.");
        // Router 3 hears exit 0 from 1 and 2 with two marks each.
        HiddenExits x = Check.domain("D4l011l021l131l231c10c20c13c23e0010");
        x.step(0);
        x.step(2);
        x.step(3);
        Edge.choice(x, 3, 0, 0, 2, 5);
        x.step(1);
        Edge.due("step(3) when the lower router tells it, too", x.step(3), 1);
        Edge.choice(x, 3, 0, 0, 1, 3);
        // Router 4 hears it from 0 with three marks and from 3 with one: one more of them wins against the number.
        HiddenExits y = Check.domain("D5l341l131l011l041c13c01c04p34e3010");
        y.step(3);
        y.step(1);
        y.step(0);
        Edge.due("heard(4)", y.heard(4), 1);
        y.step(4);
        Edge.choice(y, 4, 0, 0, 3, 8);
        // Two marks from 1 against three from 0.
        HiddenExits z = Check.domain("D5l211l311l101l041l141c12c31c10c04c14c43e2010");
        z.step(2);
        z.step(1);
        z.step(0);
        z.step(4);
        Edge.choice(z, 0, 0, 0, 1, 6);
        Edge.choice(z, 4, 0, 0, 1, 6);
        // Both routes are to the same exit, so the other one is no second route.
        z.add(4);
        Edge.due("step(4)", z.step(4), 0);
        Edge.choice(z, 4, 1);
    }

    private static void paths() {
        Edge.sentence(0, "1. those with the smallest path length are left;");
        for (int path = 1; path < 5; path++) {
            String text = "D2l019c01e00" + (path + 1) + "0e10" + path + "5";
            for (int mode = 0; mode <= 2; mode++) {
                Edge.due("the first exit of " + text + " in mode " + mode, firstExit(text, mode, 0), 1);
            }
        }
        Edge.due("the first exit of three", firstExit("D1e0050e0140e0230", 0, 0), 2);
        Edge.due("the first exit of equal ones", firstExit("D1e0050e0150e0250", 0, 0), 0);
    }

    private static void weights() {
        Edge.sentence(0, "2. in mode 0 those for which no other one of those left, with the same neighbour, has a smaller"
            + " weight; in mode 1 those with the smallest weight; in mode 2 all;");
        for (int neighbour = 0; neighbour <= 2; neighbour++) {
            String same = "D1e0" + neighbour + "15e0" + neighbour + "14";
            Edge.due("the first exit of " + same, firstExit(same, 0, 0), 1);
            String other = "D1e0" + neighbour + "15e0" + (neighbour + 1) % 3 + "10";
            Edge.due("the first exit of " + other, firstExit(other, 0, 0), 0);
            Edge.due("the first exit of " + other + " in mode 1", firstExit(other, 1, 0), 1);
            Edge.due("the first exit of " + same + " in mode 2", firstExit(same, 2, 0), 0);
        }
        Edge.due("equal weights in mode 0", firstExit("D1e0010e0010", 0, 0), 0);
        Edge.due("equal weights in mode 1", firstExit("D1e0010e0110", 1, 0), 0);
        Edge.due("weights 1 and 0", firstExit("D1e0011e0010", 0, 0), 1);
        // One that is not left after rule 1 has no say, though it is lighter.
        Edge.due("a lighter one with a longer path", firstExit("D1e0015e0020", 0, 0), 0);
        Edge.due("a lighter one with a longer path in mode 1", firstExit("D1e0115e0014e0020", 1, 0), 1);
        Edge.due("three neighbours", firstExit("D1e0015e0114e0213", 0, 0), 0);
        Edge.due("three neighbours in mode 1", firstExit("D1e0015e0114e0213", 1, 0), 2);
        Edge.due("three neighbours, one of them twice", firstExit("D1e0015e0114e0213e0010", 0, 0), 1);
        // One that is pushed out pushes others out, too.
        Edge.due("three with the same neighbour", firstExit("D1e0013e0012e0011", 0, 0), 2);
        // The weight comes before the own exit and the distance.
        Edge.due("a lighter one elsewhere", firstExit("D2l019c01e0011e1010", 0, 0), 1);
        Edge.due("a lighter one elsewhere in mode 1", firstExit("D2l019c01e0011e1110", 1, 0), 1);
        Edge.due("a lighter one elsewhere in mode 2", firstExit("D2l019c01e0011e1010", 2, 0), 0);
    }

    private static void nearness() {
        Edge.sentence(0, "3. those from i itself, if there are any; otherwise all;");
        Edge.due("an own exit with a higher number", firstExit("D2l011c01e1010e0010", 0, 0), 1);
        Edge.due("two own exits", firstExit("D2l011c01e1010e0010e0010", 0, 0), 1);
        Edge.due("no own exit", firstExit("D2l011c01e1010", 0, 0), 0);
        Edge.due("an own exit that is not left", firstExit("D2l011c01e1010e0020", 0, 0), 0);
        Edge.sentence(0, "4. those with the smallest distance from i to the router of the exit;");
        Edge.due("distances 2 and 1", firstExit("D3l012l021p01p02e1010e2010", 0, 0), 1);
        Edge.due("distances 1 and 1", firstExit("D3l011l021p01p02e1010e2010", 0, 0), 0);
        Edge.due("distances 9 and 8", firstExit("D3l019l028p01p02e1010e2010", 0, 0), 1);
        Edge.due("distances 36 and 9", firstExit("D5l019l129l239l349p01p04e4010e1010", 0, 0), 1);
        // The link to the first one costs 9, the way over router 2 costs 7, as much as the link to the other one less 1.
        Edge.due("distances 7 and 8", firstExit("D4l019l023l214l038p01p03e3010e1010", 0, 0), 1);
        Edge.sentence(0, "5. the one with the lowest exit.");
        Edge.due("two at the same router", firstExit("D1e0010e0010", 0, 0), 0);
        Edge.due("four at the same distance", firstExit("D5l011l021l031l041p01p02p03p04e4010e3010e2010e1010", 0, 0), 0);
        HiddenExits x = Check.domain("D1e0010e0010e0010e0010");
        for (int exit = 0; exit < 4; exit++) {
            x.step(0);
            Edge.choice(x, 0, 0, exit, 0, 0);
            x.turn(exit);
        }
    }

    private static void seconds() {
        Edge.sentence(0, "If i is extended, the second route is the one that is left likewise of all other considered routes,"
            + " if there are any.");
        HiddenExits x = Check.domain("D1e0013e0012e0111e0120");
        x.step(0);
        Edge.choice(x, 0, 0, 1, 0, 0);
        Edge.choice(x, 0, 1);
        x.add(0);
        x.step(0);
        Edge.choice(x, 0, 0, 1, 0, 0);
        // Without exit 1 nothing is lighter than exit 0 with its neighbour.
        Edge.choice(x, 0, 1, 0, 0, 0);
        x.turn(0);
        x.step(0);
        Edge.choice(x, 0, 1, 2, 0, 0);
        x.turn(2);
        x.step(0);
        Edge.choice(x, 0, 1, 3, 0, 0);
        x.turn(3);
        x.step(0);
        Edge.choice(x, 0, 0, 1, 0, 0);
        Edge.choice(x, 0, 1);
        x.turn(1);
        x.step(0);
        Edge.choice(x, 0, 0);
        Edge.choice(x, 0, 1);
        // The own exit comes first; the second one is heard from another router, and has its marks.
        HiddenExits y = Check.domain("D2l011c01e1010e0010");
        y.add(0);
        Edge.rounds(y, 2);
        Edge.choice(y, 0, 0, 1, 0, 0);
        Edge.choice(y, 0, 1, 0, 1, 2);
    }

    private static void rounds() {
        Edge.sentence(0, "In a round all routers make a step at the same time, on the basis of the choices before the round.");
        // Step by step the exit would reach the other end at once, from whichever end the steps begin.
        String[] lines = {"D4l011l121l231c01c12c23e0010", "D4l011l121l231c32c21c10e3010"};
        for (String line : lines) {
            HiddenExits x = Check.domain(line);
            for (int k = 0; k < 4; k++) {
                Edge.due("round() of " + line, x.round(), 1);
            }
            Edge.due("round() of " + line, x.round(), 0);
        }
        HiddenExits y = Check.domain(Makers.DISAGREE);
        Edge.rounds(y, 2);
        Edge.due("round(), where two change their minds", y.round(), 2);
        Edge.choice(y, 0, 0, 1, 1, 10);
        Edge.choice(y, 1, 0, 0, 0, 5);
    }
}
