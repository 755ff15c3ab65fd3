/** Promises 33 to 35: slots and figures. */
public final class SlotTest {
    private static final String STAR = "D3l012l123c10c12e0010e2010";

    public static void main(String[] args) {
        keeping();
        returning();
        figures();
        Check.finish();
    }

    private static void keeping() {
        HiddenExits x = Check.domain(STAR);
        Check.due(33, "keep(2)", x.keep(2), Check.UNKNOWN);
        Check.due(33, "keep(-1)", x.keep(-1), Check.UNKNOWN);
        Check.due(33, "keep(0)", x.keep(0), 3);
        x.round();
        Check.due(33, "keep(1)", x.keep(1), 3);
        Check.due(33, "count(9): it is no act", x.count(9), 1);
        x.round();
        Check.due(33, "again(0)", x.again(0), 3);
        Check.due(33, "count(8)", x.count(8), 0);
        Check.due(33, "again(1)", x.again(1), 3);
        Check.due(33, "count(8)", x.count(8), 5);
        x.round();
        Check.due(33, "keep(0) in place of the other", x.keep(0), 3);
        x.again(1);
        Check.due(33, "again(0)", x.again(0), 3);
        Check.due(33, "count(8)", x.count(8), 7);
        Check.due(33, "keep(1) of a new object", new HiddenExits().keep(1), 1);
        // What is done after that does not get into the slot, nor does undoing what was done before.
        x.keep(1);
        x.turn(0);
        x.undo();
        x.setLink(0, 1, 7);
        x.weigh(0, 5);
        x.add(1);
        x.again(1);
        Check.due(33, "link(0, 1, 0)", x.link(0, 1, 0), 2);
        Check.due(33, "exit(0, 3)", x.exit(0, 3), 0);
        Check.due(33, "count(6)", x.count(6), 0);
    }

    private static void returning() {
        HiddenExits x = Check.domain(STAR);
        Check.due(34, "again(2)", x.again(2), Check.UNKNOWN);
        Check.due(34, "again(-1)", x.again(-1), Check.UNKNOWN);
        Check.due(34, "again(0)", x.again(0), Check.STATE);
        x.add(1);
        x.setMode(1);
        x.setLink(0, 2, 4);
        x.weigh(1, 2);
        x.turn(0);
        x.turn(0);
        x.round();
        x.round();
        x.turn(1);
        x.keep(0);
        Check.due(34, "again(1)", x.again(1), Check.STATE);
        x.add(1);
        x.add(2);
        x.setMode(2);
        x.setLink(0, 1, 0);
        x.weigh(1, 0);
        x.turn(1);
        x.turn(0);
        x.step(0);
        x.step(1);
        x.see(0, 0, 1);
        x.seed(5);
        x.write(65);
        Check.due(34, "again(0)", x.again(0), 3);
        int[] figures = {STAR.length() + 1, 3, 3, 2, 2, 1, 2, 1, 7, 0, 1};
        for (int what = 0; what < figures.length; what++) {
            Check.due(34, "count(" + what + ")", x.count(what), figures[what]);
        }
        Check.due(34, "undo()", x.undo(), Check.STATE);
        Check.due(34, "seed(0)", x.seed(0), 5);
        Check.due(34, "link(0, 1, 1)", x.link(0, 1, 1), 2);
        Check.due(34, "link(0, 2, 1)", x.link(0, 2, 1), 4);
        Check.due(34, "exit(1, 3)", x.exit(1, 3), 2);
        Check.due(34, "choice(0, 0, 0)", x.choice(0, 0, 0), 0);
        Check.due(34, "choice(1, 0, 0)", x.choice(1, 0, 0), 0);
        Check.due(34, "choice(1, 1, 0)", x.choice(1, 1, 0), 1);
        Check.due(34, "choice(2, 0, 0)", x.choice(2, 0, 0), 1);
        // The slot keeps it, and what follows can be undone as usual.
        x.turn(0);
        Check.due(34, "undo()", x.undo(), 0);
        x.turn(0);
        Check.due(34, "again(0)", x.again(0), 3);
        Check.due(34, "count(5)", x.count(5), 1);
        Check.due(34, "undo()", x.undo(), Check.STATE);
    }

    private static void figures() {
        HiddenExits x = Check.domain("D5l011l121l231p01c12c14p34e0010e3010e3020");
        x.turn(1);
        x.add(2);
        x.add(4);
        x.setMode(2);
        x.step(3);
        x.step(0);
        x.see(1, 1, 1);
        x.see(1, 1, 0);
        int[] want = {41, 5, 3, 4, 3, 5, 20, 2, 9, 6, 2};
        for (int what = 0; what < want.length; what++) {
            Check.due(35, "count(" + what + ")", x.count(what), want[what]);
        }
        Check.due(35, "count(-1)", x.count(-1), Check.OUTSIDE);
        Check.due(35, "count(11)", x.count(11), Check.OUTSIDE);
        x.setLink(3, 4, 2);
        x.setLink(0, 1, 0);
        x.setLink(1, 2, 0);
        Check.due(35, "count(2)", x.count(2), 2);
        x.turn(0);
        x.step(0);
        Check.due(35, "count(8)", x.count(8), 8);
        x.wipe();
        Check.due(35, "count(0)", x.count(0), 0);
        Check.due(35, "count(1)", x.count(1), 5);
        HiddenExits full = Check.domain("D5l011l021l031l041l121l131l141l231l241l341p01c02p03c40p12c13p14c32p24c43");
        Check.due(35, "count(2)", full.count(2), 10);
        Check.due(35, "count(3)", full.count(3), 10);
    }
}
