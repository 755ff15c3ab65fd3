/** Promises 26 to 28: observations, and which exit may have been down. */
public final class SightingTest {
    private static final String DISAGREE = "D4p01c02c13l029l139l031l121e2010e3010";

    public static void main(String[] args) {
        seeing();
        unseeing();
        inferring();
        restless();
        gone();
        Check.finish();
    }

    private static void seeing() {
        HiddenExits x = Check.domain("D3l011c01e0010e1010");
        Check.due(26, "see(3, 0, 0)", x.see(3, 0, 0), Check.UNKNOWN);
        Check.due(26, "see(-1, 0, 0)", x.see(-1, 0, 0), Check.UNKNOWN);
        Check.due(26, "see(0, 2, 0)", x.see(0, 2, 0), Check.UNKNOWN);
        Check.due(26, "see(0, -1, 2)", x.see(0, -1, 2), Check.UNKNOWN);
        Check.due(26, "see(0, 0, 2)", x.see(0, 0, 2), Check.OUTSIDE);
        Check.due(26, "see(0, 0, -1)", x.see(0, 0, -1), Check.OUTSIDE);
        for (int k = 1; k <= 6; k++) {
            Check.due(26, "see(2, 1, 0)", x.see(2, 1, 0), k);
            Check.due(26, "count(10)", x.count(10), k);
        }
        Check.due(26, "see(2, 1, 0) when full", x.see(2, 1, 0), Check.FULL);
        Check.due(26, "see(3, 1, 0) when full", x.see(3, 1, 0), Check.UNKNOWN);
        Check.due(26, "see(2, 1, 2) when full", x.see(2, 1, 2), Check.OUTSIDE);
        Check.due(26, "count(10)", x.count(10), 6);
        Check.due(26, "count(9): it is no act", x.count(9), 0);
        Check.due(26, "which(), where router 2 has nothing", x.which(), 3);
    }

    private static void unseeing() {
        HiddenExits x = Check.domain("D3l011c01e0010e1010");
        Check.due(27, "unsee()", x.unsee(), 0);
        x.see(0, 1, 1);
        x.see(1, 1, 1);
        Check.due(27, "which()", x.which(), 1);
        Check.due(27, "unsee()", x.unsee(), 2);
        Check.due(27, "count(10)", x.count(10), 0);
        Check.due(27, "which()", x.which(), 3);
        Check.due(27, "unsee()", x.unsee(), 0);
        Check.due(27, "see(0, 0, 1)", x.see(0, 0, 1), 1);
        Check.due(27, "which()", x.which(), 2);
    }

    private static void inferring() {
        // Exit 0 at router 0 comes first, then exit 1, then exit 2 at router 2.
        HiddenExits x = Check.domain("D3l011l121c01c12e0010e1020e2030");
        Check.due(28, "which() without observations", x.which(), 7);
        x.see(2, 0, 1);
        Check.due(28, "which()", x.which(), 6);
        x.see(1, 1, 0);
        Check.due(28, "which()", x.which(), 6);
        x.see(2, 1, 1);
        Check.due(28, "which() of contradicting ones", x.which(), 0);
        x.unsee();
        x.see(2, 0, 0);
        Check.due(28, "which()", x.which(), 1);
        // The present choices and which exits are up now do not matter.
        x.turn(0);
        x.turn(1);
        x.round();
        x.round();
        Check.due(28, "which()", x.which(), 1);
        Check.due(28, "count(5)", x.count(5), 4);
        Check.due(28, "choice(2, 0, 0)", x.choice(2, 0, 0), 2);
        // The present links, weights, extended routers and mode do.
        HiddenExits y = Check.domain("D2l011c01e0010e1010e1111");
        y.see(0, 1, 1);
        Check.due(28, "which()", y.which(), 1);
        y.weigh(0, 1);
        Check.due(28, "which() with another weight", y.which(), 5);
        y.setMode(2);
        Check.due(28, "which() in another mode", y.which(), 1);
        y.setLink(0, 1, 0);
        Check.due(28, "which() without the link", y.which(), 0);
        Check.due(28, "which() without exits", new HiddenExits().which(), 0);
    }

    private static void restless() {
        // Exit 2 is at router 0 and too far away in path length: without it, the others do not come to rest.
        HiddenExits x = Check.domain(DISAGREE + "e0050");
        x.see(2, 0, 0);
        Check.due(28, "which(), with no rest it was not so", x.which(), 5);
        x.unsee();
        x.see(2, 0, 1);
        Check.due(28, "which()", x.which(), 2);
        x.add(0);
        Check.due(28, "which() with an extended router", x.which(), 6);
        x.unsee();
        x.see(3, 2, 1);
        Check.due(28, "which()", x.which(), 0);
    }

    private static void gone() {
        HiddenExits x = Check.domain("D3e2010e2010e2010");
        x.see(2, 0, 0);
        x.see(0, 2, 0);
        Check.read(x, "D2e0010e1010");
        Check.due(28, "count(10)", x.count(10), 2);
        Check.due(28, "which(), router 2 and exit 2 are gone", x.which(), 3);
        Check.read(x, "D3e2010e1010");
        Check.due(28, "which(), router 2 is here again", x.which(), 1);
        x.unsee();
        x.see(2, 0, 1);
        Check.due(28, "which()", x.which(), 2);
        Check.read(x, "D2e0010e1010");
        Check.due(28, "which() of a router that is gone", x.which(), 0);
        Check.read(x, "D3e2010e2010e2010");
        x.unsee();
        x.see(0, 2, 1);
        Check.read(x, "D2e0010e1010");
        Check.due(28, "which() of an exit that is gone", x.which(), 0);
    }
}
