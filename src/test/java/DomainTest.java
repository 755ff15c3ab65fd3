/** Promises 1 to 8: a new object, the text and its fault, the domain and what it consists of. */
public final class DomainTest {
    public static void main(String[] args) {
        newObject();
        writing();
        wiping();
        faults();
        reading();
        replacing();
        links();
        sessions();
        exits();
        Check.finish();
    }

    private static void newObject() {
        HiddenExits x = new HiddenExits();
        int[] figures = {0, 1, 0, 0, 0, 0, 0, 0, 0, 0, 0};
        for (int what = 0; what < figures.length; what++) {
            Check.due(1, "count(" + what + ")", x.count(what), figures[what]);
        }
        Check.due(1, "seed(1)", x.seed(1), 0);
        Check.due(1, "fault()", x.fault(), 0);
        Check.due(1, "again(0)", x.again(0), Check.STATE);
        Check.due(1, "again(1)", x.again(1), Check.STATE);
        Check.due(1, "undo()", x.undo(), Check.STATE);
        Check.due(1, "choice(0, 0, 0)", x.choice(0, 0, 0), Check.NONE);
        Check.due(1, "link(0, 0, 1)", x.link(0, 0, 1), 0);
        Check.due(1, "step(1)", x.step(1), Check.UNKNOWN);
    }

    private static void writing() {
        HiddenExits x = new HiddenExits();
        Check.due(2, "write(-1)", x.write(-1), Check.OUTSIDE);
        Check.due(2, "write(256)", x.write(256), Check.OUTSIDE);
        Check.due(2, "write(min)", x.write(Integer.MIN_VALUE), Check.OUTSIDE);
        Check.due(2, "write(max)", x.write(Integer.MAX_VALUE), Check.OUTSIDE);
        Check.due(2, "write(0)", x.write(0), 1);
        Check.due(2, "write(255)", x.write(255), 2);
        for (int k = 3; k <= 90; k++) {
            Check.due(2, "write(68)", x.write(68), k);
        }
        Check.due(2, "write(68) when full", x.write(68), Check.FULL);
        Check.due(2, "write(255) when full", x.write(255), Check.FULL);
        Check.due(2, "write(256) when full", x.write(256), Check.OUTSIDE);
        Check.due(2, "count(0)", x.count(0), 90);
        Check.due(2, "fault()", x.fault(), 0);
    }

    private static void wiping() {
        HiddenExits x = new HiddenExits();
        Check.due(3, "wipe()", x.wipe(), 0);
        Check.write(x, "D3l012");
        Check.due(3, "wipe()", x.wipe(), 6);
        Check.due(3, "wipe() again", x.wipe(), 0);
        Check.due(3, "count(0)", x.count(0), 0);
        Check.due(3, "write(68)", x.write(68), 1);
        Check.due(3, "fault()", x.fault(), 1);
        for (int k = 0; k < 100; k++) {
            x.write(68);
        }
        Check.due(3, "wipe()", x.wipe(), 90);
        Check.due(3, "write(68)", x.write(68), 1);
    }

    private static void fault(String text, int want) {
        HiddenExits x = new HiddenExits();
        Check.write(x, text);
        Check.due(4, "fault() of " + text, x.fault(), want);
        Check.due(4, "fault() of " + text + " once more", x.fault(), want);
        Check.due(5, "domain() of " + text + " fails", x.domain() == Check.STATE ? 1 : 0, want == Check.NONE ? 0 : 1);
    }

    private static void faults() {
        fault("", 0);
        fault("d", 0);
        fault(" D1", 0);
        fault("D", 1);
        fault("D0", 1);
        fault("D6", 1);
        fault("Dl", 1);
        fault("D1", Check.NONE);
        fault("D5", Check.NONE);
        fault("D1 ", 2);
        fault("D1D", 2);
        fault("D11", 2);
        fault("D2x", 2);
        fault("D2\u00ff", 2);
        // One router has nobody to be joined with.
        fault("D1l", 2);
        fault("D1p", 2);
        fault("D1c", 2);
        fault("D1e", 3);
        fault("D1e1", 3);
        fault("D2l", 3);
        fault("D2l2", 3);
        fault("D2l0", 4);
        fault("D2l00", 4);
        fault("D2l02", 4);
        fault("D2l01", 5);
        fault("D2l010", 5);
        fault("D2l01l", 5);
        fault("D2l011", Check.NONE);
        fault("D2l019", Check.NONE);
        // All pairs have links, in whichever order they are given; sessions are counted apart.
        fault("D2l011l", 6);
        fault("D2l101l", 6);
        fault("D2l011p01", Check.NONE);
        fault("D2l011p10c", 9);
        fault("D2p01p", 5);
        fault("D2p01c", 5);
        fault("D2c01p", 5);
        fault("D2c01l", 6);
        // A router that has links to all others, but not all pairs have links.
        fault("D3l011l021l0", 11);
        fault("D3l011l201l0", 11);
        fault("D3l011l021l1", 12);
        fault("D3l011l021l10", 12);
        fault("D3l011l021l12", 13);
        fault("D3l011l10", 8);
        fault("D3l011l01", 8);
        fault("D3c10p02p0", 9);
        fault("D3c10p02c0", 9);
        fault("D3c10p02c1", 10);
        fault("D3c10p02c10", 10);
        fault("D3c10p02c12", Check.NONE);
        fault("D3c10p02c12p", 11);
        fault("D3c10c01", 7);
        fault("D3p10c01", 7);
        // The words of an exit.
        fault("D2e2", 3);
        fault("D2e1", 4);
        fault("D2e13", 4);
        fault("D2e12", 5);
        fault("D2e120", 5);
        fault("D2e126", 5);
        fault("D2e125", 6);
        fault("D2e1256", 6);
        fault("D2e1255", Check.NONE);
        fault("D2e0010", Check.NONE);
        fault("D1e0010e0010e0010e0010", Check.NONE);
        fault("D1e0010e0010e0010e0010e", 22);
        fault("D2e0010e0010e0010e0010l", 23);
        fault("D5l011l021l031l041l121l131l141l231l241l341l", 42);
        fault("D5p01p02p03p04p12p13p14p23p24p34c", 32);
        fault("D5p01p02p03p04p12p13p14p23p24c34e", 33);
        // The longest valid text would have 92 characters: here it ends too early, behind 90.
        fault("D5l011l021l031l041l121l131l141l231l241l341p01p02p03p04p12p13p14p23p24p34e0010e0010e0010e00", 90);
    }

    private static void reading() {
        HiddenExits x = new HiddenExits();
        Check.due(5, "domain() of nothing", x.domain(), Check.STATE);
        Check.write(x, "D1");
        Check.due(5, "domain()", x.domain(), 0);
        Check.write(x, "D4l013e2145c12p03e0011");
        Check.due(5, "domain()", x.domain(), 5);
        Check.due(5, "count(0)", x.count(0), 22);
        int[] figures = {22, 4, 1, 2, 2, 3, 0, 0, 0, 0, 0};
        for (int what = 0; what < figures.length; what++) {
            Check.due(5, "count(" + what + ")", x.count(what), figures[what]);
        }
    }

    private static void replacing() {
        HiddenExits x = Check.domain("D3l012l123c10c12e0010e2010e1011");
        x.add(1);
        x.setMode(2);
        x.turn(1);
        x.weigh(0, 4);
        x.setLink(0, 2, 7);
        x.round();
        x.round();
        x.keep(0);
        x.keep(1);
        x.see(2, 2, 1);
        x.seed(77);
        Check.write(x, "D3l");
        Check.due(5, "domain() of a fault", x.domain(), Check.STATE);
        Check.due(5, "count(5) after it", x.count(5), 5);
        Check.due(5, "count(9) after it", x.count(9), 7);
        Check.due(5, "again(0) after it", x.again(0), 3);
        Check.write(x, "D2p01e1231");
        Check.due(5, "domain()", x.domain(), 2);
        int[] figures = {10, 2, 0, 1, 1, 1, 0, 0, 0, 0, 1};
        for (int what = 0; what < figures.length; what++) {
            Check.due(5, "count(" + what + ")", x.count(what), figures[what]);
        }
        Check.due(5, "again(0)", x.again(0), Check.STATE);
        Check.due(5, "again(1)", x.again(1), Check.STATE);
        Check.due(5, "undo()", x.undo(), Check.STATE);
        Check.due(5, "seed(0)", x.seed(0), 77);
        Check.due(5, "exit(0, 0)", x.exit(0, 0), 1);
        Check.due(5, "exit(0, 3)", x.exit(0, 3), 1);
        Check.due(5, "exit(1, 0)", x.exit(1, 0), Check.UNKNOWN);
        Check.due(5, "link(0, 1, 0)", x.link(0, 1, 0), 0);
        Check.due(5, "session(1, 0)", x.session(1, 0), 1);
        Check.due(5, "domain() once more", x.domain(), 2);
        // The text of the domain before is gone without a trace: no sessions, links or exits of it are left.
        Check.read(x, "D5");
        Check.due(5, "count(2)", x.count(2), 0);
        Check.due(5, "count(3)", x.count(3), 0);
        Check.due(5, "count(4)", x.count(4), 0);
        Check.due(5, "session(1, 0)", x.session(1, 0), 0);
        Check.due(5, "round()", x.round(), 0);
        Check.due(5, "count(9)", x.count(9), 1);
        Check.due(5, "domain()", x.domain(), 0);
        Check.due(5, "undo() after it", x.undo(), Check.STATE);
        // The exits are elsewhere now, and have other paths: what was found out about the old ones is forgotten.
        Check.read(x, "D2l011c01e0010e0020e1030");
        x.round();
        x.round();
        Check.due(5, "choice(1, 0, 0)", x.choice(1, 0, 0), 0);
        Check.due(5, "mesh(0)", x.mesh(0), 0);
        Check.read(x, "D2l011c01e1030e0020e1010");
        Check.due(5, "mesh(0)", x.mesh(0), 2);
        Check.due(5, "heard(0)", x.heard(0), 2);
        Check.due(5, "heard(1)", x.heard(1), 5);
        x.round();
        Check.due(5, "choice(1, 0, 0)", x.choice(1, 0, 0), 2);
        Check.read(x, "D2c01e1010");
        x.round();
        Check.due(5, "heard(0) without a link", x.heard(0), 0);
    }

    private static void links() {
        HiddenExits x = Check.domain("D5l015l122l029l343");
        Check.due(6, "link(0, 1, 0)", x.link(0, 1, 0), 5);
        Check.due(6, "link(1, 0, 0)", x.link(1, 0, 0), 5);
        Check.due(6, "link(0, 2, 0)", x.link(0, 2, 0), 9);
        Check.due(6, "link(0, 2, 1)", x.link(0, 2, 1), 7);
        Check.due(6, "link(2, 0, 1)", x.link(2, 0, 1), 7);
        Check.due(6, "link(2, 1, 1)", x.link(2, 1, 1), 2);
        Check.due(6, "link(3, 4, 1)", x.link(3, 4, 1), 3);
        Check.due(6, "link(0, 3, 0)", x.link(0, 3, 0), 0);
        Check.due(6, "link(0, 3, 1)", x.link(0, 3, 1), Check.NONE);
        Check.due(6, "link(2, 2, 0)", x.link(2, 2, 0), 0);
        Check.due(6, "link(2, 2, 1)", x.link(2, 2, 1), 0);
        Check.due(6, "link(5, 0, 0)", x.link(5, 0, 0), Check.UNKNOWN);
        Check.due(6, "link(0, 5, 1)", x.link(0, 5, 1), Check.UNKNOWN);
        Check.due(6, "link(-1, 0, 0)", x.link(-1, 0, 0), Check.UNKNOWN);
        Check.due(6, "link(0, -1, 0)", x.link(0, -1, 0), Check.UNKNOWN);
        Check.due(6, "link(5, 0, 2)", x.link(5, 0, 2), Check.UNKNOWN);
        Check.due(6, "link(0, 1, 2)", x.link(0, 1, 2), Check.OUTSIDE);
        Check.due(6, "link(0, 3, -1)", x.link(0, 3, -1), Check.OUTSIDE);
        HiddenExits line = Check.domain("D5l049l439l329l219");
        Check.due(6, "link(0, 1, 1)", line.link(0, 1, 1), 36);
    }

    private static void sessions() {
        HiddenExits x = Check.domain("D4p01c12c30");
        int[][] want = {{0, 1, 0, 3}, {1, 0, 2, 0}, {0, 3, 0, 0}, {2, 0, 0, 0}};
        for (int i = 0; i < 4; i++) {
            for (int j = 0; j < 4; j++) {
                Check.due(7, "session(" + i + ", " + j + ")", x.session(i, j), want[i][j]);
            }
        }
        Check.due(7, "session(4, 0)", x.session(4, 0), Check.UNKNOWN);
        Check.due(7, "session(0, 4)", x.session(0, 4), Check.UNKNOWN);
        Check.due(7, "session(-1, 0)", x.session(-1, 0), Check.UNKNOWN);
        Check.due(7, "session(0, -1)", x.session(0, -1), Check.UNKNOWN);
    }

    private static void exits() {
        HiddenExits x = Check.domain("D3e2145e0051");
        int[][] want = {{2, 1, 4, 5, 1}, {0, 0, 5, 1, 1}};
        for (int exit = 0; exit < 2; exit++) {
            for (int what = 0; what < 5; what++) {
                Check.due(8, "exit(" + exit + ", " + what + ")", x.exit(exit, what), want[exit][what]);
            }
        }
        x.turn(1);
        x.weigh(1, 3);
        Check.due(8, "exit(1, 4)", x.exit(1, 4), 0);
        Check.due(8, "exit(0, 4)", x.exit(0, 4), 1);
        Check.due(8, "exit(1, 3)", x.exit(1, 3), 3);
        Check.due(8, "exit(2, 0)", x.exit(2, 0), Check.UNKNOWN);
        Check.due(8, "exit(-1, 0)", x.exit(-1, 0), Check.UNKNOWN);
        Check.due(8, "exit(2, 5)", x.exit(2, 5), Check.UNKNOWN);
        Check.due(8, "exit(0, 5)", x.exit(0, 5), Check.OUTSIDE);
        Check.due(8, "exit(0, -1)", x.exit(0, -1), Check.OUTSIDE);
    }
}
