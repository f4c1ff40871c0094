/** Promises 19 to 25, 37 and 38: changes of lines, best moves, small nets, knots and lines that come in. */
public final class ChangeTest {
    private static final String TWO_TRIANGLES = "knots 6 degree 2;ring 0 1 2;ring 3 4 5;";

    private ChangeTest() {
    }

    public static void main(String[] args) {
        changes();
        wrongChanges();
        bettering();
        cooling();
        wrongCooling();
        seeking();
        smallNets();
        smallNetsKept();
        bounds();
        growing();
        growingRefused();
        missingLines();
        Check.end("ChangeTest");
    }

    private static WiredNets of(String text) {
        WiredNets x = new WiredNets();
        Check.lay(x, 0, text);
        return x;
    }

    private static void lines(String what, WiredNets x, long... due) {
        Check.due(what + ", lines", due.length, () -> x.about(0, 2));
        for (int i = 0; i < due.length; i++) {
            int at = i;
            Check.due(what + ", line " + at, due[at], () -> x.lineAt(0, at));
        }
    }

    private static void changes() {
        String ring = "knots 4 degree 2;ring 0 1 2 3;";
        WiredNets x = of(ring);
        Check.due("0 1, 2 3 to 0 2, 1 3", 1, () -> Check.bit(x.change(0, 0, 3, false)));
        lines("changed", x, 2, 3, 34, 35);
        WiredNets y = of(ring);
        Check.due("0 3, 1 2 are there", 0, () -> Check.bit(y.change(0, 0, 3, true)));
        Check.due("knot in common", 0, () -> Check.bit(y.change(0, 0, 1, false)));
        Check.due("knot in common, crossed", 0, () -> Check.bit(y.change(0, 0, 1, true)));
        Check.due("knot in common, the other", 0, () -> Check.bit(y.change(0, 1, 3, true)));
        Check.due("0 3, 1 2 to 0 1, 3 2: there", 0, () -> Check.bit(y.change(0, 1, 2, false)));
        Check.due("0 3, 1 2 crossed to 0 2, 3 1", 1, () -> Check.bit(y.change(0, 1, 2, true)));
        lines("changed crossed", y, 1, 2, 35, 67);
        WiredNets z = of("knots 5 degree 3;row 0 1;row 2 3;row 0 2;");
        Check.due("one of the new ones is there", 0, () -> Check.bit(z.change(0, 0, 2, false)));
        Check.due("crossed neither is", 1, () -> Check.bit(z.change(0, 0, 2, true)));
        lines("crossed", z, 2, 3, 34);
    }

    private static void wrongChanges() {
        WiredNets x = of(TWO_TRIANGLES);
        Check.noSuch("i is j", () -> Check.bit(x.change(0, 1, 1, false)));
        Check.noSuch("i over j", () -> Check.bit(x.change(0, 3, 0, false)));
        Check.noSuch("no such j", () -> Check.bit(x.change(0, 0, 6, false)));
        Check.noSuch("i below 0", () -> Check.bit(x.change(0, -1, 0, false)));
        Check.noSuch("both below 0", () -> Check.bit(x.change(0, -2, -1, true)));
        Check.noSuch("nothing there", () -> Check.bit(x.change(1, 0, 1, false)));
        Check.due("nothing has changed", 6, () -> x.about(0, 2));
    }

    private static void bettering() {
        WiredNets x = of(TWO_TRIANGLES);
        Check.due("one change joins", 1, () -> x.better(0));
        lines("the first change that does", x, 2, 3, 34, 36, 101, 133);
        Check.due("price", 3027, () -> x.far(0, 5));
        Check.due("no more", 0, () -> x.better(0));
        WiredNets three = of("knots 9 degree 2;ring 0 1 2;ring 3 4 5;ring 6 7 8;");
        Check.due("no one change joins three", 0, () -> three.better(0));
        WiredNets none = of("knots 12 degree 2;");
        Check.due("no lines", 0, () -> none.better(0));
        none.net(0, 13, 2);
        Check.due("more than 12 knots", WiredNets.NONE, () -> none.better(0));
        Check.noSuch("nothing there", () -> none.better(1));
        WiredNets broken = of("knots 10 degree 3;ring 0 1 2 3 4;row 0 5;row 1 6;row 2 7;row 3 8;row 4 9;"
            + "ring 5 7 9 6 8;");
        broken.change(0, 0, 9, true);
        Check.due("price of a broken one", 3079, () -> broken.far(0, 5));
        Check.due("mended", 1, () -> broken.better(0));
        Check.due("price of the mended one", 2075, () -> broken.far(0, 5));
    }

    private static void cooling() {
        WiredNets x = of("knots 10 degree 3;ring 0 1 2 3 4;row 0 5;row 1 6;row 2 7;row 3 8;row 4 9;ring 5 7 9 6 8;");
        Check.due("nothing is better than this one", 0, () -> x.cool(0, 4711, 500, 0));
        Check.due("price", 2075, () -> x.far(0, 5));
        Check.due("no steps", 0, () -> x.cool(0, 77, 0, 10000));
        Check.hold("heat lets it be worse", x.cool(0, 77, 120, 10000) > 20 && x.far(0, 5) > 2075);
        WiredNets none = of("knots 5 degree 3;");
        Check.due("no lines", 0, () -> none.cool(0, 1, 500, 10000));
        WiredNets one = of("knots 5 degree 3;row 0 1;");
        Check.due("a line is not unlike itself", 0, () -> one.cool(0, 1, 500, 10000));
        // Split before and behind: PRICE is the same, so each change that can be is made.
        PlainNets plain = new PlainNets();
        WiredNets split = of(TWO_TRIANGLES + "off 3 4;");
        plain.net(0, 6, 2);
        for (int i = 0; i < 5; i++) {
            plain.line(0, split.lineAt(0, i) / 32, split.lineAt(0, i) % 32);
        }
        int made = plain.cool(0, -5, 300, 0);
        Check.due("split nets change at no heat", made, () -> split.cool(0, -5, 300, 0));
        Check.hold("some were made", made > 0);
        for (int i = 0; i < 5; i++) {
            int at = i;
            Check.due("line " + at, plain.lineAt(0, at), () -> split.lineAt(0, at));
        }
    }

    private static void wrongCooling() {
        WiredNets x = of("knots 5 degree 3;");
        Check.illegal("steps below 0", () -> x.cool(0, 1, -1, 0));
        Check.illegal("steps over 500", () -> x.cool(0, 1, 501, 0));
        Check.illegal("heat below 0", () -> x.cool(0, 1, 0, -1));
        Check.illegal("heat over 10000", () -> x.cool(0, 1, 0, 10001));
        Check.noSuch("nothing there, ahead", () -> x.cool(1, 1, 501, 0));
    }

    private static void seek(long due, int group, int a, int b, int degree) {
        WiredNets x = new WiredNets();
        Check.due("seek " + group + " " + a + " " + b + " " + degree, due, () -> x.seek(group, a, b, degree));
    }

    private static void seeking() {
        seek(40, 0, 8, 1, 2);
        seek(2, 0, 2, 1, 8);
        seek(2, 1, 1, 2, 1);
        seek(510, 0, 9, 1, 8);
        seek(0, 0, 1, 1, 1);
        seek(0, 0, 1, 1, 8);
        seek(WiredNets.NONE, 0, 4, 1, 1);
        seek(WiredNets.NONE, 0, 3, 3, 3);
        seek(WiredNets.NONE, 1, 2, 2, 1);
        // Found once by trying every set of things with PlainNets.
        seek(323136, 0, 24, 1, 8);
        seek(323136, 0, 1, 24, 8);
        seek(77824, 1, 12, 2, 3);
        seek(77984, 1, 12, 2, 5);
        seek(307472, 1, 12, 2, 6);
        seek(29352, 1, 12, 2, 7);
        seek(13748, 1, 12, 2, 8);
        seek(1130778, 0, 4, 6, 7);
        seek(91394, 0, 2, 12, 6);
        long bad = Check.ILLEGAL;
        seek(bad, 2, 4, 1, 2);
        seek(bad, -1, 4, 1, 2);
        seek(bad, 1, 4, 1, 2);
        seek(bad, 1, 13, 2, 2);
        seek(bad, 0, 5, 5, 2);
        seek(bad, 0, 0, 5, 2);
        seek(bad, 0, 5, 0, 2);
        seek(bad, 0, -3, -3, 2);
        seek(bad, 0, 65536, 65536, 2);
        seek(bad, 0, 5, 1, 0);
        seek(bad, 0, 5, 1, 9);
    }

    /** How many, kinds, fewest lines, least number. */
    private static void small(int n, int d, int k, long... due) {
        WiredNets x = new WiredNets();
        Check.due("small " + n + " " + d + " " + k, due[0], () -> x.small(n, d, k));
        for (int what = 0; what < 4; what++) {
            int at = what;
            Check.due("found " + at + " of " + n + " " + d + " " + k, due[at], () -> x.found(at));
        }
    }

    private static void smallNets() {
        small(1, 1, 0, 1, 1, 0, 0);
        small(1, 8, Integer.MAX_VALUE, 1, 1, 0, 0);
        small(2, 1, 0, 0, 0, -1, -1);
        small(2, 1, 1, 1, 1, 1, 1);
        small(3, 2, 2, 4, 2, 2, 3);
        small(4, 1, 3, 0, 0, -1, -1);
        small(4, 8, 3, 38, 6, 3, 7);
        small(5, 8, 4, 728, 21, 4, 15);
        small(6, 8, 5, 26704, 112, 5, 31);
        small(6, 5, Integer.MAX_VALUE, 26704, 112, 5, 31);
        small(6, 2, 5, 420, 2, 5, 692);
        small(6, 2, 3, 60, 1, 6, 1880);
        small(6, 8, 1, 1, 1, 15, 32767);
        small(6, 4, 1, 0, 0, -1, -1);
        small(6, 3, 2, 790, 5, 7, 956);
    }

    private static void smallNetsKept() {
        WiredNets x = new WiredNets();
        Check.noSuch("none yet", () -> x.found(0));
        Check.illegal("n is 0", () -> x.small(0, 1, 1));
        Check.illegal("n is 7", () -> x.small(7, 1, 1));
        Check.illegal("d is 0", () -> x.small(3, 0, 1));
        Check.illegal("d is 9", () -> x.small(3, 9, 1));
        Check.illegal("k below 0", () -> x.small(3, 1, -1));
        Check.noSuch("still none", () -> x.found(0));
        x.small(6, 2, 3);
        x.small(5, 2, 3);
        x.small(6, 2, 5);
        Check.due("the latest", 420, () -> x.found(0));
        Check.illegal("a wrong one", () -> x.small(7, 1, 1));
        Check.due("kept", 2, () -> x.found(1));
        Check.noSuch("another what", () -> x.found(4));
        Check.noSuch("what below 0", () -> x.found(-1));
        x.small(4, 1, 3);
        Check.due("none such, but they were sought", 0, () -> x.found(0));
    }

    private static void bounds() {
        WiredNets x = new WiredNets();
        int[][] due = {{1, 0, 1}, {8, 0, 1}, {1, 1, 2}, {1, 24, 2}, {2, 24, 49}, {3, 1, 4}, {3, 2, 10}, {7, 2, 50},
            {4, 18, 774840977}, {4, 19, 1000000000}, {8, 10, 376633665}, {8, 11, 1000000000}, {8, 24, 1000000000}};
        for (int[] row : due) {
            Check.due("bound " + row[0] + " " + row[1], row[2], () -> x.bound(row[0], row[1]));
        }
        Check.illegal("d is 0", () -> x.bound(0, 1));
        Check.illegal("d is 9", () -> x.bound(9, 1));
        Check.illegal("k below 0", () -> x.bound(3, -1));
        Check.illegal("k is 25", () -> x.bound(3, 25));
    }

    private static void growing() {
        WiredNets x = of("knots 2 degree 1;row 0 1;");
        Check.due("a line with a knot in its midst", 2004, () -> x.grow(0, 1));
        lines("grown", x, 2, 34);
        Check.due("degree of 2", 2, () -> x.about(0, 1));
        WiredNets y = of("knots 4 degree 1;row 0 1;row 2 3;");
        Check.due("still split", 1000000, () -> y.grow(0, 1));
        lines("the first line", y, 4, 36, 67);
        WiredNets z = of("knots 4 degree 1;row 0 1;row 2 3;");
        Check.due("now joined", 2016, () -> z.grow(0, 2));
        lines("a star", z, 4, 36, 68, 100);
        Check.due("degree of 4", 4, () -> z.about(0, 1));
        Check.due("five knots", 5, () -> z.about(0, 0));
        WiredNets wide = of("knots 4 degree 7;all 0 1 2 3;");
        Check.due("by two lines", 2012, () -> wide.grow(0, 2));
        lines("0 1 and 2 3 went", wide, 2, 3, 4, 34, 35, 36, 68, 100);
        Check.due("degree stays", 7, () -> wide.about(0, 1));
        WiredNets ring = of("knots 5 degree 2;ring 0 1 2 3 4;");
        Check.due("a ring of six", 3027, () -> ring.grow(0, 1));
        lines("the first of like ones", ring, 4, 5, 34, 37, 67, 100);
    }

    private static void growingRefused() {
        WiredNets x = of("knots 4 degree 3;star 0 1 2 3;");
        Check.due("all share a knot", WiredNets.NONE, () -> x.grow(0, 2));
        Check.due("nothing changes", 3, () -> x.about(0, 1));
        Check.illegal("pulls of 0", () -> x.grow(0, 0));
        Check.illegal("pulls of 3", () -> x.grow(0, 3));
        Check.noSuch("nothing there, ahead", () -> x.grow(1, 3));
        x.net(0, 4, 3);
        Check.due("no lines", WiredNets.NONE, () -> x.grow(0, 1));
        x.turned(0, 0, 24, 1, 1 << 1 | 1 << 23);
        Check.due("24 knots", WiredNets.NONE, () -> x.grow(0, 1));
        Check.illegal("24 knots, pulls of 0", () -> x.grow(0, 0));
        x.turned(0, 0, 23, 1, 1 << 1 | 1 << 22);
        Check.due("to 24 knots", 13728, () -> x.grow(0, 1));
        Check.due("24 knots", 24, () -> x.about(0, 0));
    }

    private static void missingLines() {
        String[] texts = {"knots 1 degree 1;", "knots 2 degree 1;", "knots 2 degree 1;row 0 1;", "knots 3 degree 2;row 0 1 2;",
            "knots 4 degree 2;ring 0 1 2 3;", "knots 4 degree 3;", "knots 5 degree 2;row 0 1 2;row 3 4;",
            "knots 5 degree 2;row 0 1 2 3 4;", "knots 4 degree 3;all 0 1 2 3;"};
        long[] due = {-1, 1, -1, 2, 2, 1, 35, 4, -1};
        for (int i = 0; i < texts.length; i++) {
            WiredNets x = of(texts[i]);
            int lines = x.about(0, 2);
            Check.due("missing of " + texts[i], due[i], () -> x.missing(0));
            Check.due("nothing changes", lines, () -> x.about(0, 2));
        }
        WiredNets ring = new WiredNets();
        ring.turned(0, 0, 24, 1, 1 << 1 | 1 << 23);
        Check.due("across a ring", 12, () -> ring.missing(0));
        Check.noSuch("nothing there", () -> ring.missing(1));
    }
}
