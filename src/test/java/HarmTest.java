/** Promises 26 to 30: what falls do, halves, knots laid on a floor. */
public final class HarmTest {
    private HarmTest() {
    }

    public static void main(String[] args) {
        fallingLines();
        fallingKnots();
        keptFalls();
        wrongFalls();
        halvedNets();
        laysOfFew();
        laysOfMany();
        keptLays();
        Check.end("HarmTest");
    }

    private static WiredNets of(String text) {
        WiredNets x = new WiredNets();
        Check.lay(x, 0, text);
        return x;
    }

    private static void falls(WiredNets x, int kind, int far, int... row) {
        Check.due("falls " + kind + " " + row.length, far, () -> x.falls(0, kind, row.length));
        for (int i = 0; i < row.length; i++) {
            int at = i;
            Check.due("fallen " + at, row[at], () -> x.fallen(at));
        }
        Check.noSuch("no more fell", () -> x.fallen(row.length));
        Check.noSuch("fallen below 0", () -> x.fallen(-1));
    }

    private static void fallingLines() {
        WiredNets ring = of("knots 5 degree 2;ring 0 1 2 3 4;");
        falls(ring, 0, 2);
        falls(ring, 0, 4, 0);
        falls(ring, 0, 100, 0, 1);
        WiredNets all = of("knots 4 degree 3;all 0 1 2 3;");
        falls(all, 0, 2, 0);
        falls(all, 0, 2, 0, 1);
        // Of a triangle with a tail the tail's line (number 3) splits it.
        WiredNets tail = of("knots 4 degree 3;ring 0 1 2;row 2 3;");
        falls(tail, 0, 100, 3);
        falls(tail, 0, 100, 0, 1);
        WiredNets split = of("knots 3 degree 2;row 0 1;");
        falls(split, 0, 100);
        falls(split, 0, 100, 0);
        // A ring of eight with a line across: without 0 1 knot 1 ends a tail, without 1 2 also it is alone.
        WiredNets theta = of("knots 8 degree 3;ring 0 1 2 3 4 5 6 7;row 0 4;");
        falls(theta, 0, 5, 0);
        falls(theta, 0, 100, 0, 3);
        Check.due("its lines have stayed", 9, () -> theta.about(0, 2));
    }

    private static void fallingKnots() {
        WiredNets ring = of("knots 5 degree 2;ring 0 1 2 3 4;");
        falls(ring, 1, 2);
        falls(ring, 1, 3, 0);
        falls(ring, 1, 100, 0, 2);
        falls(of("knots 2 degree 1;row 0 1;"), 1, 0, 0);
        falls(of("knots 2 degree 1;"), 1, 0, 0);
        falls(of("knots 3 degree 2;row 0 1 2;"), 1, 100, 1);
        falls(of("knots 3 degree 2;row 0 1 2;"), 1, 0, 0, 1);
        falls(of("knots 4 degree 3;all 0 1 2 3;"), 1, 1, 0, 1);
        falls(of("knots 1 degree 3;"), 1, 0);
        WiredNets tail = of("knots 5 degree 3;ring 0 1 2;row 2 3 4;");
        falls(tail, 1, 100, 2);
        falls(tail, 1, 100, 0, 2);
    }

    private static void keptFalls() {
        WiredNets x = of("knots 2 degree 1;row 0 1;");
        x.falls(0, 1, 1);
        Check.due("no knot would be left", WiredNets.NONE, () -> x.falls(0, 1, 2));
        Check.due("not so many lines", WiredNets.NONE, () -> x.falls(0, 0, 2));
        Check.due("what was kept stays", 0, () -> x.fallen(0));
        Check.noSuch("and no more", () -> x.fallen(1));
        x.net(1, 1, 1);
        Check.due("not so many knots", WiredNets.NONE, () -> x.falls(1, 1, 2));
        Check.due("the only knot", WiredNets.NONE, () -> x.falls(1, 1, 1));
        Check.due("no lines", WiredNets.NONE, () -> x.falls(1, 0, 1));
        Check.due("still kept", 0, () -> x.fallen(0));
        Check.due("none falls", 0, () -> x.falls(1, 0, 0));
        Check.noSuch("none is kept", () -> x.fallen(0));
    }

    private static void wrongFalls() {
        WiredNets x = of("knots 3 degree 2;row 0 1 2;");
        x.falls(0, 1, 1);
        Check.noSuch("no such kind", () -> x.falls(0, 2, 1));
        Check.noSuch("kind below 0", () -> x.falls(0, -1, 1));
        Check.noSuch("no such kind, ahead", () -> x.falls(0, 2, 3));
        Check.noSuch("nothing there, ahead", () -> x.falls(1, 0, 3));
        Check.illegal("many below 0", () -> x.falls(0, 0, -1));
        Check.illegal("many of 3", () -> x.falls(0, 1, 3));
        Check.due("what was kept stays", 1, () -> x.fallen(0));
    }

    private static void halves(long due, String text) {
        WiredNets x = of(text);
        Check.due("halves of " + text, due, () -> x.halves(0));
    }

    private static void halvedNets() {
        halves(0, "knots 1 degree 1;");
        halves(1, "knots 2 degree 1;row 0 1;");
        halves(1, "knots 3 degree 2;row 0 1 2;");
        halves(4, "knots 4 degree 3;all 0 1 2 3;");
        halves(6, "knots 5 degree 4;all 0 1 2 3 4;");
        halves(0, "knots 6 degree 2;ring 0 2 4;ring 1 3 5;");
        halves(2, "knots 7 degree 2;ring 0 3 6 2 5 1 4;");
        halves(0, "knots 7 degree 2;ring 0 1 2;ring 3 4 5 6;");
        halves(5, "knots 10 degree 3;ring 0 1 2 3 4;row 0 5;row 1 6;row 2 7;row 3 8;row 4 9;ring 5 7 9 6 8;");
        WiredNets x = new WiredNets();
        x.turned(0, 0, 14, 1, 1 << 1 | 1 << 13);
        Check.due("ring of 14", 2, () -> x.halves(0));
        x.net(0, 15, 1);
        Check.due("more than 14 knots", WiredNets.NONE, () -> x.halves(0));
        Check.noSuch("nothing there", () -> x.halves(1));
    }

    private static void lay(WiredNets x, int w, long length, int... places) {
        Check.due("lay, " + w + " columns", length, () -> x.lay(0, w));
        for (int knot = 0; knot < places.length; knot++) {
            int at = knot;
            Check.due("laid " + at, places[at], () -> x.laid(at));
        }
        Check.noSuch("no such knot", () -> x.laid(places.length));
        Check.noSuch("knot below 0", () -> x.laid(-1));
    }

    private static void laysOfFew() {
        lay(of("knots 1 degree 1;"), 1, 0, 0);
        lay(of("knots 5 degree 2;"), 3, 0, 0, 1, 2, 3, 4);
        WiredNets ring = of("knots 5 degree 2;ring 0 1 2 3 4;");
        lay(ring, 5, 8, 0, 1, 2, 3, 4);
        lay(ring, 2, 6, 0, 1, 3, 2, 4);
        lay(ring, 1, 8, 0, 1, 2, 3, 4);
        // On one row knots 0 and 3 must change to be beside their partners.
        lay(of("knots 4 degree 1;row 0 2;row 1 3;"), 24, 2, 0, 2, 1, 3);
        lay(of("knots 4 degree 2;ring 0 2 1 3;"), 2, 4, 0, 3, 1, 2);
        lay(of("knots 8 degree 7;all 0 1 2 3 4 5 6 7;"), 4, 56, 0, 1, 2, 3, 4, 5, 6, 7);
        lay(of("knots 8 degree 3;ring 0 1 2 3;ring 4 5 6 7;row 0 4;row 1 5;row 2 6;row 3 7;"), 4, 16,
            0, 1, 2, 3, 4, 5, 6, 7);
    }

    private static void laysOfMany() {
        // Places of 0 and 7 change: as short as others, and the lesser one is least.
        lay(of("knots 9 degree 1;row 0 8;"), 24, 1, 7, 1, 2, 3, 4, 5, 6, 0, 8);
        lay(of("knots 9 degree 1;"), 1, 0, 0, 1, 2, 3, 4, 5, 6, 7, 8);
        // No change of two shortens this, though other lays are shorter.
        WiredNets ring = of("knots 9 degree 2;ring 0 1 2 3 4 5 6 7 8;");
        lay(ring, 24, 16, 0, 1, 2, 3, 4, 5, 6, 7, 8);
        PlainNets plain = new PlainNets();
        WiredNets x = new WiredNets();
        int moves = 1 << 5 | 1 << 19 | 1 << 7 | 1 << 17;
        plain.turned(0, 0, 24, 1, moves);
        x.turned(0, 0, 24, 1, moves);
        for (int w : new int[] {1, 4, 5, 6, 24}) {
            Check.due("24 knots, " + w, plain.lay(0, w), () -> x.lay(0, w));
            for (int knot = 0; knot < 24; knot++) {
                int at = knot;
                Check.due("24 knots, laid " + at, plain.laid(at), () -> x.laid(at));
            }
        }
    }

    private static void keptLays() {
        WiredNets x = of("knots 4 degree 1;row 0 2;row 1 3;");
        Check.noSuch("none yet", () -> x.laid(0));
        Check.illegal("no columns", () -> x.lay(0, 0));
        Check.noSuch("still none", () -> x.laid(0));
        x.lay(0, 24);
        Check.illegal("columns below 0", () -> x.lay(0, -1));
        Check.illegal("25 columns", () -> x.lay(0, 25));
        Check.noSuch("nothing there, ahead", () -> x.lay(1, 25));
        Check.due("kept", 2, () -> x.laid(1));
        x.net(0, 24, 1);
        Check.due("kept, though the net is another", 2, () -> x.laid(1));
        Check.noSuch("of four knots", () -> x.laid(4));
        x.lay(0, 1);
        Check.due("of 24 knots", 23, () -> x.laid(23));
        x.net(0, 2, 1);
        x.lay(0, 1);
        Check.noSuch("of two knots", () -> x.laid(2));
    }
}
