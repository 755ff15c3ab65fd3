/** Objects in different states, for the tests of single sentences. */
final class Makers {
    /** Router 1 reflects the routes of its clients 0 and 2, which have an exit each; 0 is nearer to it. */
    static final String STAR = "D3l012l123c10c12e0010e2010";
    /** The reflectors 0 and 1 each prefer the exit at the other one's client, and hide their own if they take it. */
    static final String DISAGREE = "D4p01c02c13l029l139l031l121e2010e3010";
    /** By no order this one comes to rest, but it does if router 0 is extended. */
    static final String RESTLESS = "D5l015l024l031l349c01c02p30c34e1123e2021e4020";
    /** The longest text that can be read: with 90 characters no text is valid. */
    static final String LONGEST =
        "D5l011l022l033l044l125l136l147l238l249l341p01c02p03c04p12c13p14c32p24e0010e1111e2212e3055";

    /** A new object. */
    static final Edge.Maker FRESH = HiddenExits::new;
    /** Three routers and two exits, with something of everything, and room for more. */
    static final Edge.Maker BUSY = Makers::busy;
    /** Five routers and four exits; nothing more can be held. */
    static final Edge.Maker FULL = Makers::full;
    static final Edge.Maker[] ALL = {FRESH, BUSY, FULL};

    private Makers() {
    }

    private static HiddenExits busy() {
        HiddenExits x = Check.domain(STAR);
        x.add(1);
        x.setMode(1);
        x.round();
        x.round();
        x.keep(0);
        x.turn(1);
        x.setLink(0, 2, 7);
        x.weigh(0, 3);
        x.step(2);
        x.undo();
        x.see(0, 0, 1);
        x.see(1, 1, 0);
        x.see(2, 0, 1);
        x.seed(77);
        Check.write(x, "D2l01");
        return x;
    }

    private static HiddenExits full() {
        HiddenExits x = Check.domain(LONGEST);
        x.write('p');
        x.add(0);
        x.add(4);
        x.round();
        x.round();
        x.keep(0);
        for (int k = 0; k < 5; k++) {
            x.setLink(k, (k + 1) % 5, 9 - k);
            x.step(k);
        }
        x.turn(3);
        x.weigh(2, 5);
        x.setMode(2);
        x.keep(1);
        x.round();
        x.add(2);
        x.step(2);
        for (int k = 0; k < 6; k++) {
            x.see(k % 5, k % 4, k % 2);
        }
        x.seed(-5L);
        return x;
    }
}
