/**
 * All that can be seen of an object, as a text, so that two objects can be compared. What lies behind the present
 * state (earlier acts, slots, the text, observations) comes to light only by calls that change the object: so
 * each of these is looked at on an object of its own.
 */
final class Everything {
    private static final String[] PROBES = {"D5e0010e1010e2010e3010", "D5e1010e2010e3010e4010", "D5e2010e3010e4010e0010",
        "D5e3010e4010e0010e1010", "D5e4010e0010e1010e2010", "D5"};

    private final StringBuilder seen = new StringBuilder();

    private Everything() {
    }

    static String of(Edge.Maker maker) {
        Everything all = new Everything();
        all.present(maker.make());
        all.outlook(maker.make());
        all.choicesBefore(maker.make());
        all.settingsBefore(maker.make());
        for (int slot = 0; slot < 2; slot++) {
            HiddenExits x = maker.make();
            all.see(x.again(slot));
            all.present(x);
        }
        all.text(maker.make());
        all.observations(maker.make());
        all.random(maker.make());
        return all.seen.toString();
    }

    private void see(long answer) {
        seen.append(answer).append(' ');
    }

    private void present(HiddenExits x) {
        for (int what = 0; what <= 10; what++) {
            see(x.count(what));
        }
        int routers = x.count(1);
        for (int i = 0; i < routers; i++) {
            for (int j = 0; j < routers; j++) {
                see(x.link(i, j, 0));
                see(x.link(i, j, 1));
                see(x.session(i, j));
                see(x.tells(i, j));
            }
            for (int k = 0; k < 6; k++) {
                see(x.choice(i, k / 3, k % 3));
            }
            see(x.heard(i));
            see(x.mesh(i));
            see(x.leaves(i, 1));
        }
        for (int exit = 0; exit < x.count(4); exit++) {
            for (int what = 0; what <= 4; what++) {
                see(x.exit(exit, what));
            }
        }
    }

    private void outlook(HiddenExits x) {
        for (int what = 0; what <= 3; what++) {
            see(x.run(0, what));
            see(x.run(1, what));
        }
        see(x.healed(1));
        see(x.orders(0));
        see(x.lost(3, true));
        see(x.share(0, true));
        see(x.which());
        see(x.undo());
    }

    private void choicesBefore(HiddenExits x) {
        for (int k = 0; k < 16; k++) {
            see(x.undo());
            for (int router = 0; router < x.count(1); router++) {
                see(x.choice(router, 0, 0));
                see(x.choice(router, 0, 2));
                see(x.choice(router, 1, 0));
            }
        }
    }

    private void settingsBefore(HiddenExits x) {
        for (int k = 0; k < 16; k++) {
            see(x.undo());
            for (int what = 5; what <= 7; what++) {
                see(x.count(what));
            }
            for (int i = 0; i < x.count(1); i++) {
                for (int j = 0; j < i; j++) {
                    see(x.link(i, j, 0));
                }
            }
            for (int exit = 0; exit < x.count(4); exit++) {
                see(x.exit(exit, 3));
            }
        }
    }

    /** A text that ends too early is read when what is missing has been written. */
    private void text(HiddenExits x) {
        see(x.fault());
        for (char c : "0121".toCharArray()) {
            see(x.write(c));
            see(x.fault());
            see(x.domain());
        }
        present(x);
        see(x.wipe());
    }

    private void observations(HiddenExits x) {
        for (String probe : PROBES) {
            Check.read(x, probe);
            see(x.which());
        }
        see(x.unsee());
    }

    private void random(HiddenExits x) {
        see(x.drawn(20));
        see(x.seed(0));
    }
}
