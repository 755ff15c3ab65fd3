/** Promises 17 to 21: choices, what routers hear and tell, the mesh, and where packets leave. */
public final class ChoiceTest {
    /** Router 1 reflects the routes of its clients 0 and 2, which have an exit each; 0 is nearer to it. */
    private static final String STAR = "D3l012l123c10c12e0010e2010";

    public static void main(String[] args) {
        choices();
        hearing();
        telling();
        mesh();
        leaving();
        circles();
        Check.finish();
    }

    private static void choices() {
        HiddenExits x = Check.domain(STAR);
        x.add(1);
        x.round();
        x.round();
        int[][] want = {{0, 0, 1}, {1, 2, 4}};
        for (int second = 0; second < 2; second++) {
            for (int what = 0; what < 3; what++) {
                String call = "choice(1, " + second + ", " + what + ")";
                Check.due(17, call, x.choice(1, second, what), want[second][what]);
            }
        }
        Check.due(17, "choice(0, 0, 1)", x.choice(0, 0, 1), 0);
        Check.due(17, "choice(0, 0, 2)", x.choice(0, 0, 2), 0);
        Check.due(17, "choice(2, 0, 1)", x.choice(2, 0, 1), 2);
        Check.due(17, "choice(0, 1, 0)", x.choice(0, 1, 0), Check.NONE);
        Check.due(17, "choice(0, 1, 2)", x.choice(0, 1, 2), Check.NONE);
        Check.due(17, "choice(3, 0, 0)", x.choice(3, 0, 0), Check.UNKNOWN);
        Check.due(17, "choice(-1, 0, 0)", x.choice(-1, 0, 0), Check.UNKNOWN);
        Check.due(17, "choice(3, 2, 0)", x.choice(3, 2, 0), Check.UNKNOWN);
        Check.due(17, "choice(0, 2, 0)", x.choice(0, 2, 0), Check.OUTSIDE);
        Check.due(17, "choice(0, -1, 0)", x.choice(0, -1, 0), Check.OUTSIDE);
        Check.due(17, "choice(0, 0, 3)", x.choice(0, 0, 3), Check.OUTSIDE);
        Check.due(17, "choice(0, 1, -1)", x.choice(0, 1, -1), Check.OUTSIDE);
    }

    private static void hearing() {
        HiddenExits x = Check.domain(STAR);
        Check.due(18, "heard(0)", x.heard(0), 1);
        Check.due(18, "heard(1)", x.heard(1), 0);
        Check.due(18, "heard(2)", x.heard(2), 2);
        x.round();
        Check.due(18, "heard(1)", x.heard(1), 3);
        x.round();
        Check.due(18, "heard(0), from whom router 1 has its route", x.heard(0), 1);
        Check.due(18, "heard(2)", x.heard(2), 3);
        x.turn(0);
        Check.due(18, "heard(0) when its exit is down", x.heard(0), 0);
        Check.due(18, "heard(1), which is still told", x.heard(1), 3);
        x.setLink(0, 1, 0);
        Check.due(18, "heard(1) without a distance", x.heard(1), 2);
        Check.due(18, "heard(2) without a distance", x.heard(2), 2);
        Check.due(18, "heard(3)", x.heard(3), Check.UNKNOWN);
        Check.due(18, "heard(-1)", x.heard(-1), Check.UNKNOWN);
        // A route that has been at a router is not heard by it, though it is told: 2 has it over 1 from 0.
        HiddenExits y = Check.domain("D4l011l121l201l231c10c12c20e0010c13");
        y.step(0);
        y.step(1);
        y.step(2);
        Check.due(18, "choice(2, 0, 1)", y.choice(2, 0, 1), 0);
        y.turn(0);
        y.step(0);
        y.step(2);
        Check.due(18, "choice(2, 0, 2)", y.choice(2, 0, 2), 3);
        Check.due(18, "tells(2, 0)", y.tells(2, 0), 1);
        Check.due(18, "heard(0)", y.heard(0), 0);
        Check.due(18, "count(9)", y.count(9), 6);
    }

    private static void telling() {
        // Router 0: peers 1 and 2, clients 3 and 4; exits at 0, 1 and 3.
        HiddenExits x = Check.domain("D5l011l021l031l041p01p02c03c04e0030e1020e3010");
        Check.due(19, "tells(0, 1) without a route", x.tells(0, 1), 0);
        x.step(0);
        int[] own = {0, 1, 1, 1, 1};
        told(x, own);
        x.step(1);
        x.step(0);
        int[] fromPeer = {0, 0, 0, 1, 1};
        told(x, fromPeer);
        x.step(3);
        x.step(0);
        int[] fromClient = {0, 1, 1, 0, 1};
        told(x, fromClient);
        Check.due(19, "tells(1, 0)", x.tells(1, 0), 1);
        Check.due(19, "tells(1, 2) without a session", x.tells(1, 2), 0);
        Check.due(19, "tells(3, 0)", x.tells(3, 0), 1);
        x.step(4);
        Check.due(19, "tells(4, 0), from whom it has the route", x.tells(4, 0), 0);
        // It is told, even if the other one can't hear it.
        x.setLink(0, 4, 0);
        Check.due(19, "tells(0, 4)", x.tells(0, 4), 1);
        Check.due(19, "heard(4)", x.heard(4), 0);
        Check.due(19, "tells(5, 0)", x.tells(5, 0), Check.UNKNOWN);
        Check.due(19, "tells(0, 5)", x.tells(0, 5), Check.UNKNOWN);
        Check.due(19, "tells(-1, 0)", x.tells(-1, 0), Check.UNKNOWN);
        Check.due(19, "tells(0, -1)", x.tells(0, -1), Check.UNKNOWN);
        // A client that is a reflector itself passes on what its own client tells, but not the other way round.
        HiddenExits y = Check.domain("D4l011l121l231c01c12p13e2010");
        y.step(2);
        y.step(1);
        Check.due(19, "tells(1, 0)", y.tells(1, 0), 1);
        Check.due(19, "tells(1, 3)", y.tells(1, 3), 1);
        HiddenExits z = Check.domain("D4l011l121l231c01c12p13e0010");
        z.step(0);
        z.step(1);
        Check.due(19, "tells(1, 2)", z.tells(1, 2), 1);
        Check.due(19, "tells(1, 3)", z.tells(1, 3), 0);
        // The second route does not count.
        HiddenExits two = Check.domain("D3l011l021p01c02e1010e2020");
        two.add(0);
        two.step(1);
        two.step(2);
        two.step(0);
        Check.due(19, "choice(0, 1, 1)", two.choice(0, 1, 1), 2);
        Check.due(19, "tells(0, 1)", two.tells(0, 1), 0);
        Check.due(19, "heard(1)", two.heard(1), 3);
    }

    private static void told(HiddenExits x, int[] want) {
        for (int other = 0; other < want.length; other++) {
            Check.due(19, "tells(0, " + other + ")", x.tells(0, other), want[other]);
        }
    }

    private static void mesh() {
        HiddenExits x = Check.domain("D4l012l123e0010e2010e3010");
        Check.due(20, "mesh(0)", x.mesh(0), 0);
        Check.due(20, "mesh(1)", x.mesh(1), 0);
        Check.due(20, "mesh(2)", x.mesh(2), 1);
        Check.due(20, "mesh(3)", x.mesh(3), 2);
        x.turn(2);
        Check.due(20, "mesh(3)", x.mesh(3), Check.NONE);
        x.turn(0);
        Check.due(20, "mesh(0)", x.mesh(0), 1);
        x.turn(0);
        x.weigh(0, 1);
        Check.due(20, "mesh(0), where the weight is greater", x.mesh(0), 1);
        x.setMode(2);
        Check.due(20, "mesh(0), mode 2", x.mesh(0), 0);
        x.setLink(0, 1, 4);
        Check.due(20, "mesh(1)", x.mesh(1), 1);
        x.undo();
        Check.due(20, "mesh(1)", x.mesh(1), 0);
        Check.due(20, "mesh(4)", x.mesh(4), Check.UNKNOWN);
        Check.due(20, "mesh(-1)", x.mesh(-1), Check.UNKNOWN);
        Check.due(20, "count(8)", x.count(8), 0);
        Check.due(20, "mesh(0) without exits", Check.domain("D3l011").mesh(0), Check.NONE);
        HiddenExits modes = Check.domain("D1e0013e0012e0111");
        Check.due(20, "mesh(0), mode 0", modes.mesh(0), 1);
        modes.setMode(1);
        Check.due(20, "mesh(0), mode 1", modes.mesh(0), 2);
    }

    private static void leaving() {
        HiddenExits x = Check.domain(STAR);
        Check.due(21, "leaves(1, 0) without a route", x.leaves(1, 0), Check.NONE);
        x.round();
        x.round();
        Check.due(21, "leaves(0, 0)", x.leaves(0, 0), 0);
        Check.due(21, "leaves(0, 1)", x.leaves(0, 1), 0);
        Check.due(21, "leaves(1, 0)", x.leaves(1, 0), 0);
        Check.due(21, "leaves(1, 1)", x.leaves(1, 1), 1);
        x.turn(0);
        Check.due(21, "leaves(1, 0) by an exit that is down", x.leaves(1, 0), 0);
        x.setLink(0, 1, 0);
        Check.due(21, "leaves(1, 0) without a distance", x.leaves(1, 0), Check.NONE);
        Check.due(21, "leaves(1, 1) without a distance", x.leaves(1, 1), Check.NONE);
        Check.due(21, "leaves(0, 0)", x.leaves(0, 0), 0);
        Check.due(21, "leaves(3, 0)", x.leaves(3, 0), Check.UNKNOWN);
        Check.due(21, "leaves(-1, 2)", x.leaves(-1, 2), Check.UNKNOWN);
        Check.due(21, "leaves(0, 2)", x.leaves(0, 2), Check.OUTSIDE);
        Check.due(21, "leaves(1, -1)", x.leaves(1, -1), Check.OUTSIDE);
        // Two ways of the same cost: over router 1, the lower one, which has another exit.
        HiddenExits y = Check.domain("D4l012l022l132l232p03e3010e1010");
        y.step(3);
        y.step(1);
        y.step(0);
        Check.due(21, "leaves(0, 0)", y.leaves(0, 0), 1);
        Check.due(21, "leaves(0, 1)", y.leaves(0, 1), 1);
        y.setLink(0, 2, 1);
        Check.due(21, "leaves(0, 0) over router 2, which has no route", y.leaves(0, 0), Check.NONE);
        // The direct link is dearer than the way over the others.
        HiddenExits z = Check.domain("D3l019l021l122c10c12e1010");
        z.round();
        z.round();
        Check.due(21, "leaves(0, 0)", z.leaves(0, 0), 0);
        Check.due(21, "leaves(0, 1)", z.leaves(0, 1), 2);
        HiddenExits line = Check.domain("D5l011l121l231l341c01c02c03c04e4010e0050");
        line.round();
        line.round();
        line.round();
        Check.due(21, "leaves(0, 1) over four links", line.leaves(0, 1), 4);
        Check.due(21, "leaves(0, 0)", line.leaves(0, 0), 0);
        Check.due(21, "leaves(2, 1)", line.leaves(2, 1), 2);
    }

    private static void circles() {
        // Router 1 sends to exit 1 over router 2, which sends to exit 0 over router 1.
        HiddenExits x = Check.domain("D4l011l121l231p13p20e0010e3010");
        x.round();
        x.round();
        Check.due(21, "choice(1, 0, 0)", x.choice(1, 0, 0), 1);
        Check.due(21, "choice(2, 0, 0)", x.choice(2, 0, 0), 0);
        Check.due(21, "leaves(1, 0)", x.leaves(1, 0), Check.NONE);
        Check.due(21, "leaves(2, 0)", x.leaves(2, 0), Check.NONE);
        Check.due(21, "leaves(2, 1)", x.leaves(2, 1), Check.NONE);
        Check.due(21, "leaves(3, 0)", x.leaves(3, 0), 1);
        Check.due(21, "run(0, 0)", x.run(0, 0), 0);
    }
}
