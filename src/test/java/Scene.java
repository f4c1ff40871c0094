/**
 * An object with something in each place that a call could harm: nets of all sorts, bytes on the tape, a fault, small
 * nets found, lines that fell, knots laid. Slot 6 holds nothing.
 */
final class Scene {
    /** Slots: five knots in a ring, all full. */
    static final int RING = 0;
    static final int ONE_KNOT = 1;
    static final int SPLIT = 2;
    static final int GREATEST = 3;
    static final int THIRTEEN = 4;
    static final int ALL_OF_NINE = 5;
    static final int NOTHING = 6;
    static final int ONE_LINE = 7;

    private static final String TAPE = "knots 5 degree 4;star 3 0 1 4;row 2 0;";

    private Scene() {
    }

    static WiredNets made() {
        WiredNets x = new WiredNets();
        Check.feed(x, "knots 3 degree 2;row 0 4;");
        Check.same("scene: fault", 3, x.read(RING, 25));
        x.net(RING, 5, 2);
        for (int a = 0; a < 5; a++) {
            x.line(RING, a, (a + 1) % 5);
        }
        x.net(ONE_KNOT, 1, 1);
        x.net(SPLIT, 4, 3);
        x.line(SPLIT, 0, 1);
        x.line(SPLIT, 2, 3);
        x.turned(GREATEST, 0, 24, 1, 1 << 1 | 1 << 23);
        x.net(THIRTEEN, 13, 2);
        for (int a = 1; a < 13; a++) {
            x.line(THIRTEEN, a - 1, a);
        }
        x.turned(ALL_OF_NINE, 0, 9, 1, 0b111111110);
        x.net(ONE_LINE, 2, 1);
        x.line(ONE_LINE, 0, 1);
        Check.same("scene: small", 4, x.small(3, 2, 2));
        Check.same("scene: falls", 100, x.falls(RING, 1, 2));
        Check.same("scene: lay", 6, x.lay(RING, 2));
        Check.feed(x, TAPE);
        return x;
    }

    /** That the tape still has the bytes that the scene began with: reads them. */
    static void tapeIsAsItWas(String what, WiredNets x) {
        Check.due(what + ": the tape stays", 0, () -> x.read(NOTHING, TAPE.length()));
        Check.text(what + ": the tape stays", "5 4: 0-2 0-3 1-3 3-4", Seen.slot(x, NOTHING));
    }
}
