/** The edges of the text, its grammar and its fault, of a new object and of reading a domain: promises 1 to 5. */
final class TextEdges {
    private static final String[] EVERY_LINK = {"", "", "l011", "l011l021l121", "l011l021l031l121l131l231",
        "l011l021l031l041l121l131l141l231l241l341"};
    private static final String[] EVERY_SESSION = {"", "", "p01", "p01c02c21", "p01c20p03c12p31c23",
        "p01c02p03c40p12c13p14c32p24c43"};
    private static final String EXIT = "e0010";

    private TextEdges() {
    }

    static void check() {
        sizes();
        words();
        pairs();
        length();
        faults();
        ends();
        newObject();
        writing();
        wiping();
        checking();
        reading();
        refusing();
        calls();
    }

    private static void fault(String text, int want) {
        HiddenExits x = new HiddenExits();
        Check.write(x, text);
        Edge.due("fault() of " + text, x.fault(), want);
    }

    /** Without the character the text is still good, with it the fault is there. */
    private static void faultAtEnd(String text) {
        fault(text, text.length() - 1);
    }

    private static void good(String text) {
        fault(text, Check.NONE);
    }

    /** The text can go on, but must do so. */
    private static void unfinished(String text) {
        fault(text, text.length());
    }

    private static void sizes() {
        Edge.sentence(0, "A domain has 1 to 5 routers, numbered from 0.");
        for (int n = 1; n <= 5; n++) {
            HiddenExits x = Check.domain("D" + n);
            Edge.due("count(1) of " + n, x.count(1), n);
            Edge.due("heard(-1) of " + n, x.heard(-1), Check.UNKNOWN);
            Edge.due("heard(0) of " + n, x.heard(0), 0);
            Edge.due("heard(the last one) of " + n, x.heard(n - 1), 0);
            Edge.due("heard(" + n + ") of " + n, x.heard(n), Check.UNKNOWN);
        }
        faultAtEnd("D0");
        faultAtEnd("D6");
        Edge.sentence(0, "The digit behind D is the number of routers, 1 to 5.");
        String[] wrong = {"D0", "D6", "D9", "D/", "D:", "DD", "Dl", "D ", "D-"};
        for (String text : wrong) {
            faultAtEnd(text);
        }
        good("D1");
        good("D5");
        Edge.due("count(1) of D5", Check.domain("D5").count(1), 5);
        Edge.sentence(0, "Two routers can be joined by a link with a cost from 1 to 9.");
        faultAtEnd("D2l010");
        Edge.due("link(0, 1, 0) of l011", Check.domain("D2l011").link(0, 1, 0), 1);
        Edge.due("link(0, 1, 0) of l019", Check.domain("D2l019").link(0, 1, 0), 9);
        faultAtEnd("D2l01:");
        Edge.sentence(0, "There are at most 4 exits, numbered from 0.");
        for (int exits = 0; exits <= 4; exits++) {
            HiddenExits x = Check.domain("D2" + EXIT.repeat(exits));
            Edge.due("count(4) of " + exits, x.count(4), exits);
            Edge.due("exit(-1, 0) of " + exits, x.exit(-1, 0), Check.UNKNOWN);
            Edge.due("exit(the last one, 4) of " + exits, x.exit(exits - 1, 4), exits == 0 ? Check.UNKNOWN : 1);
            Edge.due("exit(" + exits + ", 0) of " + exits, x.exit(exits, 0), Check.UNKNOWN);
        }
        faultAtEnd("D2" + EXIT.repeat(4) + "e");
        Edge.sentence(0, "e: the next exit, at router i; at most 4 of them.");
        HiddenExits x = Check.domain("D5e4010e3010e2010e1010");
        for (int exit = 0; exit < 4; exit++) {
            Edge.due("exit(" + exit + ", 0)", x.exit(exit, 0), 4 - exit);
        }
        unfinished("D2" + EXIT.repeat(3) + "e");
        faultAtEnd("D2" + EXIT.repeat(4) + "e");
    }

    private static void words() {
        Edge.sentence(0, "An exit is at a router, leads to a neighbour (0 to 2), has a path length (1 to 5) and a weight"
            + " (0 to 5), and is up or down.");
        good("D5e0010");
        good("D5e4255");
        String[] wrong = {"D5e5", "D4e4", "D1e1", "D5e03", "D5e0/", "D5e000", "D5e006", "D5e001:", "D5e0016", "D5e001/"};
        for (String text : wrong) {
            faultAtEnd(text);
        }
        HiddenExits x = Check.domain("D5e0010e4255");
        int[][] want = {{0, 0, 1, 0, 1}, {4, 2, 5, 5, 1}};
        for (int k = 0; k < 10; k++) {
            Edge.due("exit(" + k / 5 + ", " + k % 5 + ")", x.exit(k / 5, k % 5), want[k / 5][k % 5]);
        }
        x.turn(1);
        Edge.due("exit(1, 4) when it is down", x.exit(1, 4), 0);
        Edge.sentence(0, "A domain is read from a text of at most 90 characters with this grammar, which has no blanks:");
        String text = "D3l012p10c12e2145";
        for (int at = 0; at <= text.length(); at++) {
            fault(text.substring(0, at) + " " + text.substring(at), at);
            fault(text.substring(0, at) + "\n" + text.substring(at), at);
        }
        Edge.sentence(0, "domain = \"D\" digit { part } part = \"l\" i j cost | \"p\" i j | \"c\" i j |"
            + " \"e\" i neighbour path weight");
        good("D3");
        good(text);
        good("D3e2145c12p10l012");
        char[] letters = {'d', 'L', 'P', 'C', 'E', 'D', 'k', 'm', 'o', 'q', 'b', 'f', (char) ('l' + 128), (char) 0, (char) 255};
        for (char letter : letters) {
            fault("D3" + letter + "012", 2);
            fault("D3l012" + letter + "01", 6);
        }
        fault("d3", 0);
        fault("C3", 0);
        fault("E3", 0);
        fault((char) ('D' + 128) + "3", 0);
        faultAtEnd("D3l0123");
        faultAtEnd("D3p012");
        faultAtEnd("D3c012");
        faultAtEnd("D3e01234");
        Edge.sentence(0, "All words of the grammar are single digits.");
        char[] around = {'/', ':', (char) ('1' + 128), '-', '+', 'l', (char) 0, (char) 255};
        for (int at = 0; at < text.length(); at++) {
            for (char sign : around) {
                if (Character.isDigit(text.charAt(at))) {
                    fault(text.substring(0, at) + sign + text.substring(at + 1), at);
                }
            }
        }
        fault("D3l0110", 6);
        fault("D10", 2);
    }

    private static void pairs() {
        Edge.sentence(0, "l: a link of the routers i and j. p: i and j are peers. c: j is a client of i.");
        HiddenExits x = Check.domain("D5l405p40c41");
        Edge.due("link(4, 0, 0)", x.link(4, 0, 0), 5);
        Edge.due("link(0, 4, 0)", x.link(0, 4, 0), 5);
        Edge.due("session(4, 0)", x.session(4, 0), 1);
        Edge.due("session(0, 4)", x.session(0, 4), 1);
        Edge.due("session(4, 1)", x.session(4, 1), 2);
        Edge.due("session(1, 4)", x.session(1, 4), 3);
        Edge.sentence(0, "i and j are different routers;");
        for (String kind : new String[] {"l", "p", "c"}) {
            for (int n = 2; n <= 5; n++) {
                for (int router = 0; router < n; router++) {
                    faultAtEnd("D" + n + kind + router + router);
                    unfinished("D" + n + kind + router);
                }
                faultAtEnd("D" + n + kind + n);
                faultAtEnd("D" + n + kind + "0" + n);
            }
        }
        Edge.sentence(0, "two routers have at most one link and at most one session (in whichever order i and j are given).");
        faultAtEnd("D3l011l01");
        faultAtEnd("D3l011l10");
        String[] sessions = {"p01", "p10", "c01", "c10"};
        for (String first : sessions) {
            for (String second : sessions) {
                faultAtEnd("D3" + first + second);
            }
            good("D3" + first + "l101");
            unfinished("D3" + first + "l01");
            good("D3l011" + first);
            good("D3" + first + "p02");
            good("D3" + first + "c21");
        }
        good("D3l011l201");
        good("D3l011l121");
    }

    private static void length() {
        Edge.sentence(0, "A domain is read from a text of at most 90 characters with this grammar");
        HiddenExits x = new HiddenExits();
        Check.write(x, Makers.LONGEST);
        Edge.due("the length of the longest text that is valid", x.count(0), 89);
        Edge.due("domain() of it", x.domain(), 23);
        Edge.figures(x, 89, 5, 10, 9, 4, 15);
        Edge.due("exit(3, 3), its last character", x.exit(3, 3), 5);
        Edge.due("write('p')", x.write('p'), 90);
        Edge.due("write('3')", x.write('3'), Check.FULL);
        Edge.due("domain() of 90 characters", x.domain(), Check.STATE);
        Edge.due("count(4) after it", x.count(4), 4);
    }

    private static void faults() {
        Edge.sentence(0, "The fault of a text is the position, from 0, of the first character with which, behind the"
            + " characters before it, no valid text can begin, where valid texts may have any length.");
        fault("x", 0);
        fault("0D5", 0);
        fault("Dx5x", 1);
        fault("D5xx", 2);
        fault("D5l0x0", 4);
        // The longest valid text of all has 92 characters; whatever it begins with has no fault but its end.
        String valid = "D5" + EVERY_LINK[5] + EVERY_SESSION[5] + EXIT.repeat(4);
        for (int k = 0; k <= 90; k++) {
            String start = valid.substring(0, k);
            fault(start, Reference.isValid(start) ? Check.NONE : k);
        }
        fault(Makers.LONGEST + "p", 90);
        fault(Makers.LONGEST + "c", 90);
        fault(Makers.LONGEST + "l", 89);
        fault(Makers.LONGEST + "e", 89);
        Edge.sentence(0, "(So \"l\" is at fault if all pairs of routers have links, also if there is one router only;");
        for (int n = 1; n <= 5; n++) {
            faultAtEnd("D" + n + EVERY_LINK[n] + "l");
            faultAtEnd("D" + n + EVERY_SESSION[n] + EVERY_LINK[n] + "l");
            if (n > 1) {
                String links = EVERY_LINK[n];
                unfinished("D" + n + links.substring(0, links.length() - 4) + "l");
                unfinished("D" + n + links.substring(4) + "l");
                unfinished("D" + n + EVERY_SESSION[n] + "l");
            }
        }
        Edge.sentence(0, "\"p\" and \"c\" likewise for sessions;");
        for (int n = 1; n <= 5; n++) {
            for (String kind : new String[] {"p", "c"}) {
                faultAtEnd("D" + n + EVERY_SESSION[n] + kind);
                faultAtEnd("D" + n + EVERY_LINK[n] + EVERY_SESSION[n] + kind);
                if (n > 1) {
                    String sessions = EVERY_SESSION[n];
                    unfinished("D" + n + sessions.substring(0, sessions.length() - 3) + kind);
                    unfinished("D" + n + sessions.substring(3) + kind);
                    unfinished("D" + n + EVERY_LINK[n] + kind);
                }
            }
        }
        busyRouters();
        Edge.sentence(0, "and the \"e\" of a fifth exit.)");
        for (int n = 1; n <= 5; n++) {
            unfinished("D" + n + EXIT.repeat(3) + "e");
            faultAtEnd("D" + n + EXIT.repeat(4) + "e");
        }
    }

    private static void busyRouters() {
        Edge.sentence(0, "the digit i of a router that has links, or sessions, to all others;");
        for (int n = 3; n <= 5; n++) {
            for (int router = 0; router < n; router++) {
                StringBuilder links = new StringBuilder("D" + n);
                StringBuilder sessions = new StringBuilder("D" + n);
                int last = router == n - 1 ? n - 2 : n - 1;
                for (int other = 0; other < n; other++) {
                    if (other == last) {
                        unfinished(links + "l" + router);
                        unfinished(sessions + "p" + router);
                        unfinished(sessions + "c" + router);
                    }
                    if (other != router) {
                        links.append(other % 2 == 0 ? "l" + router + other + "1" : "l" + other + router + "1");
                        sessions.append(other % 2 == 0 ? "c" + router + other : "p" + other + router);
                    }
                }
                faultAtEnd(links + "l" + router);
                faultAtEnd(sessions + "p" + router);
                faultAtEnd(sessions + "c" + router);
                unfinished(links + "l" + last);
                unfinished(links + "p" + router);
                unfinished(sessions + "c" + last);
                unfinished(sessions + "l" + router);
                // As the second one of a pair it is at fault, too.
                faultAtEnd(links + "l" + last + router);
                faultAtEnd(sessions + "p" + last + router);
            }
        }
    }

    private static void ends() {
        Edge.sentence(0, "If there is no such character, but the text ends too early, the fault is its length.");
        String[] early = {"", "D", "D2l", "D2l0", "D2l01", "D2p", "D2p0", "D2c", "D2c1", "D2e", "D2e0", "D2e00", "D2e001"};
        for (String text : early) {
            unfinished(text);
        }
        good("D2");
        good("D2l015");
        good("D2p01");
        good("D2c10");
        good("D2e0015");
    }

    private static void newObject() {
        Edge.sentence(0, "At first there is one router, and nothing else.");
        HiddenExits x = new HiddenExits();
        Edge.due("heard(0)", x.heard(0), 0);
        Edge.due("heard(1)", x.heard(1), Check.UNKNOWN);
        Edge.due("exit(0, 0)", x.exit(0, 0), Check.UNKNOWN);
        Edge.choice(x, 0, 0);
        Edge.choice(x, 0, 1);
        Edge.sentence(1, "Creates a domain with one router, without links, sessions and exits, with an empty text, no"
            + " observations and empty slots;");
        Edge.figures(x, 0, 1, 0, 0, 0, 0, 0, 0, 0, 0, 0);
        Edge.due("link(0, 0, 0)", x.link(0, 0, 0), 0);
        Edge.due("session(0, 0)", x.session(0, 0), 0);
        Edge.due("fault()", x.fault(), 0);
        Edge.due("wipe()", x.wipe(), 0);
        Edge.due("unsee()", x.unsee(), 0);
        Edge.due("again(0)", x.again(0), Check.STATE);
        Edge.due("again(1)", x.again(1), Check.STATE);
        Edge.due("undo()", x.undo(), Check.STATE);
        Edge.sentence(1, "the random number is 0.");
        Edge.due("seed(5)", x.seed(5), 0);
        // An object knows nothing of another one.
        Makers.FULL.make();
        Edge.due("seed(5) of another one", new HiddenExits().seed(5), 0);
    }

    private static void writing() {
        Edge.sentence(2, "Appends a character to the text.");
        HiddenExits x = new HiddenExits();
        x.write('D');
        Edge.due("fault() of D", x.fault(), 1);
        x.write('2');
        Edge.due("fault() of D2", x.fault(), Check.NONE);
        Edge.sentence(2, "its code, 0 to 255");
        HiddenExits codes = new HiddenExits();
        for (int letter = 0; letter <= 255; letter += 3) {
            Edge.due("write(" + letter + ")", codes.write(letter), letter / 3 + 1);
        }
        Edge.due("write(1)", codes.write(1), 87);
        Edge.due("write(254)", codes.write(254), 88);
        Edge.sentence(2, "Returns the length of the text;");
        HiddenExits full = new HiddenExits();
        for (int k = 1; k <= 90; k++) {
            Edge.due("write(0), number " + k, full.write(0), k);
        }
        Edge.sentence(2, "OUTSIDE if letter is out of range;");
        int[] outside = {-1, 256, -128, 'D' + 256, 'D' - 256, Integer.MIN_VALUE, Integer.MAX_VALUE};
        for (int letter : outside) {
            for (Edge.Maker maker : Makers.ALL) {
                Edge.refused(maker, "write(" + letter + ")", y -> y.write(letter), Check.OUTSIDE);
            }
        }
        Edge.sentence(2, "FULL if the text has 90 characters.");
        Edge.due("write(0) when full", full.write(0), Check.FULL);
        Edge.due("write(255) when full", full.write(255), Check.FULL);
        Edge.due("count(0)", full.count(0), 90);
        Edge.refused(Makers.FULL, "write('2')", y -> y.write('2'), Check.FULL);
        HiddenExits almost = new HiddenExits();
        Check.write(almost, "D".repeat(89));
        Edge.due("write(68) as number 90", almost.write(68), 90);
        Edge.due("write(68) as number 91", almost.write(68), Check.FULL);
    }

    private static void wiping() {
        Edge.sentence(3, "Empties the text.");
        HiddenExits x = new HiddenExits();
        Check.write(x, "D2l01");
        x.wipe();
        Edge.due("count(0)", x.count(0), 0);
        Edge.due("fault()", x.fault(), 0);
        Edge.due("write('D')", x.write('D'), 1);
        Edge.due("fault() of D", x.fault(), 1);
        HiddenExits full = Makers.FULL.make();
        full.wipe();
        Edge.due("write('D') after 90 characters", full.write('D'), 1);
        Edge.due("count(4): the domain stays", full.count(4), 4);
        Edge.sentence(3, "Returns the length that it had.");
        Edge.due("wipe() of nothing", new HiddenExits().wipe(), 0);
        Edge.due("wipe() of 1", x.wipe(), 1);
        Edge.due("wipe() once more", x.wipe(), 0);
        Edge.due("wipe() of 90", Makers.FULL.make().wipe(), 90);
        Edge.due("wipe() of 89", Check.domain(Makers.LONGEST).wipe(), 89);
    }

    private static void checking() {
        Edge.sentence(4, "Checks the text.");
        for (Edge.Maker maker : Makers.ALL) {
            Edge.unchanged(maker, "fault()", HiddenExits::fault);
        }
        Edge.sentence(4, "Returns its fault;");
        fault("", 0);
        fault("D", 1);
        fault("D1l", 2);
        Edge.sentence(4, "NONE if it has none.");
        good("D1");
        good(Makers.LONGEST);
    }

    private static void reading() {
        Edge.sentence(5, "Reads the text as a domain, which replaces the present one.");
        HiddenExits x = Makers.FULL.make();
        Check.write(x, "D2e1010");
        x.domain();
        Edge.figures(x, 7, 2, 0, 0, 1, 1);
        Edge.due("session(0, 1)", x.session(0, 1), 0);
        Edge.due("link(0, 1, 1)", x.link(0, 1, 1), Check.NONE);
        Edge.due("exit(0, 0)", x.exit(0, 0), 1);
        Edge.due("exit(1, 0)", x.exit(1, 0), Check.UNKNOWN);
        Edge.due("heard(2)", x.heard(2), Check.UNKNOWN);
        Edge.due("heard(0), which had the first exit before", x.heard(0), 0);
        Edge.due("heard(1)", x.heard(1), 1);
        // The exits have other places, paths and weights; what has been found out about the old ones is forgotten.
        Check.read(x, "D2l011c01e0010e1020");
        Edge.rounds(x, 2);
        Edge.due("mesh(0)", x.mesh(0), 0);
        Edge.due("mesh(1)", x.mesh(1), 0);
        Check.read(x, "D2l011c01e0020e1010");
        Edge.due("mesh(0)", x.mesh(0), 1);
        Edge.due("mesh(1)", x.mesh(1), 1);
        Edge.rounds(x, 2);
        Edge.choice(x, 0, 0, 1, 1, 2);
        Check.read(x, "D1");
        Edge.figures(x, 2, 1, 0, 0, 0, 0);
        Edge.due("mesh(0) when there are no exits any more", x.mesh(0), Check.NONE);
        Edge.sentence(5, "All exits are up, no router is extended, the mode is 0, and no router has choices.");
        HiddenExits y = Makers.FULL.make();
        Check.read(y, Makers.LONGEST);
        Edge.figures(y, 89, 5, 10, 9, 4, 15, 0, 0, 0);
        for (int router = 0; router < 5; router++) {
            Edge.choice(y, router, 0);
            Edge.choice(y, router, 1);
        }
        Edge.sentence(5, "There are no acts to undo, and the slots are empty.");
        Edge.due("count(9)", y.count(9), 0);
        Edge.due("undo()", y.undo(), Check.STATE);
        Edge.due("again(0)", y.again(0), Check.STATE);
        Edge.due("again(1)", y.again(1), Check.STATE);
        Edge.sentence(5, "The text, the observations and the random number stay.");
        Edge.due("count(0)", y.count(0), 89);
        Edge.due("fault()", y.fault(), Check.NONE);
        Edge.due("count(10)", y.count(10), 6);
        Edge.due("domain() once more", y.domain(), 23);
        Edge.due("unsee()", y.unsee(), 6);
        Edge.due("seed(0)", y.seed(0), -5);
    }

    private static void refusing() {
        Edge.sentence(5, "Returns the number of parts of the text;");
        String[] texts = {"D1", "D2l011", "D1e0010", "D2p01l011", Makers.LONGEST};
        int[] parts = {0, 1, 1, 2, 23};
        for (int k = 0; k < texts.length; k++) {
            HiddenExits x = new HiddenExits();
            Check.write(x, texts[k]);
            Edge.due("domain() of " + texts[k], x.domain(), parts[k]);
        }
        Edge.sentence(5, "STATE if the text has a fault.");
        for (Edge.Maker maker : Makers.ALL) {
            Edge.refused(maker, "domain()", HiddenExits::domain, Check.STATE);
        }
        // The fault comes behind a good part, which is not read either.
        Edge.Maker spoilt = () -> {
            HiddenExits x = Makers.BUSY.make();
            Check.write(x, "D5l019e4010x");
            return x;
        };
        Edge.refused(spoilt, "domain()", HiddenExits::domain, Check.STATE);
    }

    private static void calls() {
        Edge.sentence(0, "An object is used for at most 512 calls after it has been made; what later calls answer is free.");
        HiddenExits x = new HiddenExits();
        int made = 0;
        for (char c : Makers.STAR.toCharArray()) {
            x.write(c);
            made++;
        }
        x.domain();
        made++;
        for (int k = 0; made < 511; k++) {
            x.weigh(0, k % 6);
            made++;
        }
        Edge.due("undo() as call 512", x.undo(), 13);
    }
}
