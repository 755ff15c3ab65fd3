/** The edges of slots and figures: promises 33 to 35. */
final class SlotEdges {
    private static final int[] NO_SLOTS = {-1, 2, 3, 31, 32, Integer.MIN_VALUE, Integer.MAX_VALUE};

    private SlotEdges() {
    }

    static void check() {
        keeping();
        returning();
        figures();
    }

    private static void keeping() {
        Edge.sentence(33, "Saves links, exits (with weights, and which are up), extended routers, mode and choices in a slot, in place"
            + " of what it contains.");
        for (int slot = 0; slot <= 1; slot++) {
            HiddenExits x = Check.domain(Makers.STAR);
            x.keep(slot);
            x.setLink(0, 1, 9);
            x.setLink(1, 2, 0);
            x.setLink(0, 2, 4);
            x.weigh(1, 5);
            x.turn(1);
            x.add(0);
            x.add(1);
            x.setMode(2);
            Edge.rounds(x, 2);
            x.keep(slot);
            Edge.due("count(9): it is no act", x.count(9), 10);
            x.setLink(0, 1, 1);
            x.setLink(1, 2, 1);
            x.setLink(0, 2, 0);
            x.weigh(1, 0);
            x.turn(0);
            x.turn(1);
            x.add(0);
            x.add(1);
            x.add(2);
            x.setMode(1);
            Edge.rounds(x, 2);
            x.again(slot);
            Edge.figures(x, Makers.STAR.length(), 3, 2, 2, 2, 1, 3, 2, 3);
            Edge.due("link(0, 1, 0)", x.link(0, 1, 0), 9);
            Edge.due("link(1, 2, 1)", x.link(1, 2, 1), 13);
            Edge.due("exit(1, 3)", x.exit(1, 3), 5);
            Edge.due("exit(1, 4)", x.exit(1, 4), 0);
            Edge.choice(x, 0, 0, 0, 0, 0);
            Edge.choice(x, 1, 0, 0, 0, 1);
            Edge.choice(x, 2, 0);
            Edge.due("the other slot is empty", x.again(1 - slot), Check.STATE);
        }
        Edge.sentence(33, "0 or 1");
        HiddenExits both = Check.domain(Makers.STAR);
        both.keep(0);
        both.round();
        both.keep(1);
        both.again(0);
        Edge.due("count(8) of slot 0", both.count(8), 0);
        both.again(1);
        Edge.due("count(8) of slot 1", both.count(8), 5);
        Edge.sentence(33, "Returns the number of routers;");
        for (int n = 1; n <= 5; n++) {
            Edge.due("keep(0)", Check.domain("D" + n).keep(0), n);
            Edge.due("keep(1)", Check.domain("D" + n).keep(1), n);
        }
        Edge.due("keep(1) of a new object", new HiddenExits().keep(1), 1);
        Edge.sentence(33, "UNKNOWN if slot is out of range.");
        for (int slot : NO_SLOTS) {
            for (Edge.Maker maker : Makers.ALL) {
                Edge.refused(maker, "keep(" + slot + ")", x -> x.keep(slot), Check.UNKNOWN);
            }
        }
    }

    private static void returning() {
        Edge.sentence(34, "Restores all that from a slot, which keeps it.");
        HiddenExits x = Check.domain(Makers.STAR);
        x.keep(0);
        for (int k = 0; k < 3; k++) {
            x.round();
            x.turn(0);
            x.setLink(0, 1, 0);
            Edge.due("again(0)", x.again(0), 3);
            Edge.figures(x, Makers.STAR.length(), 3, 2, 2, 2, 3, 0, 0, 0, 0, 0);
            Edge.due("link(0, 1, 1)", x.link(0, 1, 1), 2);
        }
        // The text, the observations and the random number are not in the slot.
        x.see(0, 0, 1);
        x.seed(6);
        x.wipe();
        x.again(0);
        Edge.due("count(0)", x.count(0), 0);
        Edge.due("count(10)", x.count(10), 1);
        Edge.due("seed(0)", x.seed(0), 6);
        Edge.sentence(34, "There are no acts to undo after that.");
        HiddenExits full = Makers.FULL.make();
        Edge.due("count(9) before", full.count(9), 14);
        full.again(1);
        Edge.due("count(9)", full.count(9), 0);
        Edge.due("undo()", full.undo(), Check.STATE);
        full.turn(0);
        Edge.due("undo() of an act after that", full.undo(), 0);
        Edge.due("undo()", full.undo(), Check.STATE);
        Edge.sentence(34, "0 or 1");
        Edge.due("again(0)", Makers.FULL.make().again(0), 5);
        Edge.due("again(1)", Makers.FULL.make().again(1), 5);
        Edge.sentence(34, "Returns the number of routers;");
        for (int n = 1; n <= 5; n++) {
            HiddenExits y = Check.domain("D" + n);
            y.keep(1);
            Edge.due("again(1)", y.again(1), n);
        }
        Edge.sentence(34, "UNKNOWN if slot is out of range;");
        for (int slot : NO_SLOTS) {
            for (Edge.Maker maker : Makers.ALL) {
                Edge.refused(maker, "again(" + slot + ")", y -> y.again(slot), Check.UNKNOWN);
            }
        }
        Edge.sentence(34, "STATE if the slot is empty.");
        Edge.refused(Makers.FRESH, "again(0)", y -> y.again(0), Check.STATE);
        Edge.refused(Makers.FRESH, "again(1)", y -> y.again(1), Check.STATE);
        Edge.refused(Makers.BUSY, "again(1)", y -> y.again(1), Check.STATE);
        Edge.Maker read = () -> {
            HiddenExits y = Makers.FULL.make();
            Check.read(y, Makers.STAR);
            y.round();
            return y;
        };
        Edge.refused(read, "again(0) after domain()", y -> y.again(0), Check.STATE);
        Edge.refused(read, "again(1) after domain()", y -> y.again(1), Check.STATE);
    }

    private static void figures() {
        Edge.sentence(35, "0: length of the text; 1: routers; 2: links; 3: sessions; 4: exits; 5: the set of the exits that are up; 6:"
            + " the set of the extended routers; 7: the mode; 8: the set of the routers that have a first route; 9: acts that can be"
            + " undone; 10: observations");
        Edge.figures(new HiddenExits(), 0, 1, 0, 0, 0, 0, 0, 0, 0, 0, 0);
        Edge.figures(Makers.BUSY.make(), 5, 3, 3, 2, 2, 1, 2, 1, 7, 7, 3);
        HiddenExits full = Makers.FULL.make();
        Edge.figures(full, 90, 5, 10, 9, 4, 7, 21, 2, 31, 14, 6);
        HiddenExits all = Check.domain("D5p01c02p03c40p12c13p14c32p24c43e0010e1010e2010e3010");
        for (int i = 0; i < 5; i++) {
            for (int j = 0; j < i; j++) {
                all.setLink(i, j, 9);
            }
            all.add(i);
        }
        Edge.rounds(all, 3);
        Edge.figures(all, 52, 5, 10, 10, 4, 15, 31, 0, 31, 14, 0);
        // A router with a route whose exit is down has a first route, until it makes a step.
        HiddenExits down = Check.domain("D1e0010");
        down.step(0);
        down.turn(0);
        Edge.figures(down, 7, 1, 0, 0, 1, 0, 0, 0, 1, 2, 0);
        down.step(0);
        Edge.due("count(8)", down.count(8), 0);
        Edge.sentence(35, "OUTSIDE if what is out of range.");
        int[] outside = {-1, 11, 12, Integer.MIN_VALUE, Integer.MAX_VALUE};
        for (int what : outside) {
            for (Edge.Maker maker : Makers.ALL) {
                Edge.refused(maker, "count(" + what + ")", y -> y.count(what), Check.OUTSIDE);
            }
        }
    }
}
