/** Promises 26 to 30: the edges of falls, halves and lays. */
public final class HarmEdgesTest {
    private static final int NONE = WiredNets.NONE;

    private HarmEdgesTest() {
    }

    public static void main(String[] args) {
        fallsOfRows();
        fallsOfRings();
        fallsOfAll();
        fallsOfStars();
        fallsWithoutLines();
        fallsOfLikeOnes();
        fallsOfTheLastOf96Lines();
        fallsAreKept();
        fallsLeaveTheNet();
        halvesByFormula();
        halvesOf14And15();
        laysInOrder();
        laysOfEightAndNine();
        laysOfLikeOnes();
        laysOfAllWidths();
        laysAreKept();
        Check.end("HarmEdgesTest");
    }

    private static WiredNets of(String text) {
        WiredNets x = new WiredNets();
        Check.lay(x, 0, text);
        return x;
    }

    /** The greatest FAR, and what fell: its numbers, and no more. */
    private static void falls(String of, WiredNets x, int kind, int far, int... row) {
        String what = "falls " + kind + " " + row.length + " of " + of;
        Check.due(what, far, () -> x.falls(0, kind, row.length));
        for (int i = 0; i < row.length; i++) {
            int at = i;
            Check.due(what + ", fallen " + at, row[at], () -> x.fallen(at));
        }
        Check.noSuch(what + ", no more fell", () -> x.fallen(row.length));
        Check.noSuch(what + ", fallen -1", () -> x.fallen(-1));
    }

    private static void fallsOfRows() {
        for (int n = 2; n <= 24; n++) {
            String of = "a row of " + n;
            WiredNets x = Shapes.row(n);
            falls(of, x, 0, n - 1);
            falls(of, x, 1, n - 1);
            falls(of, x, 0, 100, 0);
            if (n == 2) {
                falls(of, x, 1, 0, 0);
                continue;
            }
            falls(of, x, 0, 100, 0, 1);
            falls(of, x, 1, 100, 1);
            if (n == 3) {
                falls(of, x, 1, 0, 0, 1);
            } else {
                falls(of, x, 1, 100, 0, 2);
            }
        }
    }

    private static void fallsOfRings() {
        for (int n = 3; n <= 24; n++) {
            String of = "a ring of " + n;
            WiredNets x = Shapes.ring(n);
            falls(of, x, 0, n / 2);
            falls(of, x, 1, n / 2);
            falls(of, x, 0, n - 1, 0);
            falls(of, x, 0, 100, 0, 1);
            falls(of, x, 1, n - 2, 0);
            if (n == 3) {
                falls(of, x, 1, 0, 0, 1);
            } else {
                falls(of, x, 1, 100, 0, 2);
            }
        }
    }

    private static void fallsOfAll() {
        for (int n = 4; n <= 9; n++) {
            String of = "all of " + n;
            WiredNets x = Shapes.all(n);
            falls(of, x, 0, 1);
            falls(of, x, 0, 2, 0);
            falls(of, x, 0, 2, 0, 1);
            falls(of, x, 1, 1);
            falls(of, x, 1, 1, 0);
            falls(of, x, 1, 1, 0, 1);
        }
    }

    private static void fallsOfStars() {
        for (int n = 3; n <= 9; n++) {
            String of = "a star of " + n;
            WiredNets x = Shapes.star(n);
            falls(of, x, 0, 2);
            falls(of, x, 0, 100, 0);
            falls(of, x, 0, 100, 0, 1);
            falls(of, x, 1, 100, n - 1);
            if (n == 3) {
                falls(of, x, 1, 0, 0, 1);
            } else {
                falls(of, x, 1, 100, 0, n - 1);
            }
        }
    }

    /** "NONE (what was kept stays): there are not so many, or no KNOT would be left." */
    private static void fallsWithoutLines() {
        for (int n = 1; n <= 24; n++) {
            String of = "none of " + n;
            WiredNets x = Shapes.none(n);
            falls(of, x, 0, n == 1 ? 0 : 100);
            falls(of, x, 1, n == 1 ? 0 : 100);
            Check.due("no line falls of " + n, NONE, () -> x.falls(0, 0, 1));
            Check.due("no two lines fall of " + n, NONE, () -> x.falls(0, 0, 2));
            if (n == 1) {
                Check.due("the only knot", NONE, () -> x.falls(0, 1, 1));
                Check.due("more than there are", NONE, () -> x.falls(0, 1, 2));
            } else {
                falls(of, x, 1, n == 2 ? 0 : 100, 0);
            }
            if (n == 2) {
                Check.due("both knots", NONE, () -> x.falls(0, 1, 2));
            } else if (n > 2) {
                falls(of, x, 1, n == 3 ? 0 : 100, 0, 1);
            }
        }
        WiredNets one = of("knots 24 degree 1;row 22 23;");
        falls("one line", one, 0, 100, 0);
        Check.due("two of one line", NONE, () -> one.falls(0, 0, 2));
        WiredNets two = of("knots 3 degree 2;row 0 1 2;");
        falls("two lines", two, 0, 100, 0, 1);
    }

    /** "of like ones the first as a row": by numbers of LINES, of KNOTS. */
    private static void fallsOfLikeOnes() {
        // A ring of six with a tail: line 6 (5-6) parts it; two lines: 0 and 1 part knot 0.
        WiredNets tail = of("knots 7 degree 3;ring 0 1 2 3 4 5;row 5 6;");
        falls("a ring with a tail", tail, 0, 100, 6);
        falls("a ring with a tail", tail, 0, 100, 0, 1);
        falls("a ring with a tail", tail, 1, 100, 5);
        falls("a ring with a tail", tail, 1, 100, 0, 2);
        // Nothing parts all of five knots but one line: the pair 3-4 is missing.
        WiredNets most = of("knots 5 degree 4;all 0 1 2 3 4;off 3 4;");
        falls("all but 3 4", most, 0, 2, 0);
        falls("all but 3 4", most, 0, 2, 0, 1);
        falls("all but 3 4", most, 1, 2, 0);
        falls("all but 3 4", most, 1, 2, 0, 1);
        // A ring of five with a line across, 0-2: without 0-1, the first line, knots 1 and 4 are 3 apart.
        WiredNets five = of("knots 5 degree 3;ring 0 1 2 3 4;row 0 2;");
        falls("a ring with a line across", five, 0, 3, 0);
        Twin twin = Twin.like("a ring with a line across", five);
        fallsAs(twin, 0, 1);
        fallsAs(twin, 0, 2);
        fallsAs(twin, 1, 1);
        fallsAs(twin, 1, 2);
        for (int n = 4; n <= 13; n++) {
            for (int seed = 0; seed < 4; seed++) {
                Twin chosen = Twin.chosen(n, 5, n + seed * n / 2, 31 * n + seed);
                fallsAs(chosen, 0, 1);
                fallsAs(chosen, 0, 2);
                fallsAs(chosen, 1, 1);
                fallsAs(chosen, 1, 2);
            }
        }
        fallsAs(Twin.turned(0, 24, 1, 1 << 1 | 1 << 23 | 1 << 7 | 1 << 17), 0, 1);
        fallsAs(Twin.turned(0, 24, 1, 1 << 1 | 1 << 23 | 1 << 7 | 1 << 17), 1, 2);
        fallsAs(Twin.turned(0, 24, 1, 0b111100000000000000011110), 0, 2);
        fallsAs(Twin.turned(1, 12, 2, 1 << 12 | 1 << 13 | 1 << 16), 1, 2);
    }

    private static void fallsAs(Twin twin, int kind, int many) {
        String call = "falls " + kind + " " + many;
        long due = Check.answerOf(() -> twin.plain.falls(0, kind, many));
        twin.same(call, due, () -> twin.wired.falls(0, kind, many));
        for (int i = 0; i < 2; i++) {
            int at = i;
            long fell = Check.answerOf(() -> twin.plain.fallen(at));
            twin.same("fallen " + at + " behind " + call, fell, () -> twin.wired.fallen(at));
        }
    }

    /** Even and odd KNOTS, each with eight LINES, joined by 20-21 and by 22-23, the last of all: both must fall. */
    private static void fallsOfTheLastOf96Lines() {
        WiredNets x = new WiredNets();
        x.net(0, 24, 8);
        for (int i = 0; i < 12; i++) {
            for (int move = 1; move <= 4; move++) {
                int j = (i + move) % 12;
                if (i != 10 || j != 11) {
                    Check.hold("even", x.line(0, 2 * i, 2 * j));
                    Check.hold("odd", x.line(0, 2 * i + 1, 2 * j + 1));
                }
            }
        }
        Check.hold("20-21", x.line(0, 20, 21));
        Check.hold("22-23", x.line(0, 22, 23));
        Check.due("96 lines", 96, () -> x.about(0, 2));
        Check.due("the last line", 32 * 22 + 23, () -> x.lineAt(0, 95));
        int other = 0;
        while (x.lineAt(0, other) != 32 * 20 + 21) {
            other++;
        }
        falls("96 lines", x, 0, 100, other, 95);
        Check.due("thin", 2, () -> x.far(0, 3));
        Check.due("thin of knots", 2, () -> x.far(0, 4));
    }

    private static void kept(WiredNets x, String behind, int... row) {
        for (int i = 0; i < row.length; i++) {
            int at = i;
            Check.due("fallen " + at + " behind " + behind, row[at], () -> x.fallen(at));
        }
        Check.noSuch("no more behind " + behind, () -> x.fallen(row.length));
    }

    /** What fell stays, until falls() answers again; a NONE and an exception leave it. */
    private static void fallsAreKept() {
        WiredNets x = of("knots 7 degree 3;ring 0 1 2 3 4 5;row 5 6;");
        x.net(1, 1, 1);
        x.net(2, 2, 1);
        x.line(2, 0, 1);
        Check.noSuch("none yet", () -> x.fallen(0));
        Check.due("NONE ahead of the first", NONE, () -> x.falls(1, 1, 1));
        Check.noSuch("still none", () -> x.fallen(0));
        x.falls(0, 1, 1);
        kept(x, "the first", 5);
        for (int[] none : new int[][] {{1, 0, 1}, {1, 0, 2}, {1, 1, 1}, {1, 1, 2}, {2, 0, 2}, {2, 1, 2}}) {
            Check.due("NONE", NONE, () -> x.falls(none[0], none[1], none[2]));
            kept(x, "NONE", 5);
        }
        Check.noSuch("nothing there", () -> x.falls(7, 0, 1));
        Check.noSuch("kind 2", () -> x.falls(0, 2, 1));
        Check.noSuch("kind -1", () -> x.falls(0, -1, 1));
        Check.illegal("many 3", () -> x.falls(0, 0, 3));
        Check.illegal("many -1", () -> x.falls(0, 1, -1));
        kept(x, "exceptions", 5);
        x.net(0, 3, 2);
        kept(x, "another net in its slot", 5);
        x.falls(2, 0, 1);
        kept(x, "one line", 0);
        x.falls(0, 1, 2);
        kept(x, "two knots", 0, 1);
        x.falls(2, 1, 1);
        kept(x, "one knot", 0);
        x.falls(2, 1, 0);
        kept(x, "none");
    }

    private static void fallsLeaveTheNet() {
        WiredNets x = of("knots 7 degree 3;ring 0 1 2 3 4 5;row 5 6;");
        String before = Seen.slot(x, 0);
        for (int kind = 0; kind < 2; kind++) {
            for (int many = 0; many < 3; many++) {
                x.falls(0, kind, many);
                Check.text("falls " + kind + " " + many + " leaves it", before, Seen.slot(x, 0));
            }
        }
    }

    private static void halves(String of, WiredNets x, long due) {
        Check.due("halves of " + of, due, () -> x.halves(0));
    }

    /** "between a set of n / 2 KNOTS (cut down) and the others". */
    private static void halvesByFormula() {
        for (int n = 1; n <= 14; n++) {
            halves("none of " + n, Shapes.none(n), 0);
            halves("a row of " + n, Shapes.row(n), n == 1 ? 0 : 1);
            if (n >= 3) {
                halves("a ring of " + n, Shapes.ring(n), 2);
            }
            if (n <= 9) {
                halves("all of " + n, Shapes.all(n), n / 2 * (n - n / 2));
                halves("a star of " + n, Shapes.star(n), n / 2);
            }
        }
        halves("3 and 4 knots", of("knots 7 degree 3;all 0 1 2;all 3 4 5 6;"), 0);
        halves("2 and 5 knots", of("knots 7 degree 4;all 0 1;all 2 3 4 5 6;"), 4);
        halves("1 and 2 knots", of("knots 3 degree 1;row 0 2;"), 0);
    }

    /** "HALVES (of at most 14 KNOTS)"; "NONE: more than 14 KNOTS." */
    private static void halvesOf14And15() {
        for (int n = 12; n <= 14; n++) {
            for (int seed = 0; seed < 3; seed++) {
                Twin twin = Twin.chosen(n, 6, 2 * n, 7 * n + seed);
                twin.same("halves", twin.plain.halves(0), () -> twin.wired.halves(0));
            }
        }
        WiredNets heawood = new WiredNets();
        heawood.turned(0, 1, 7, 2, 1 << 7 | 1 << 8 | 1 << 10);
        halves("14 knots", heawood, 7);
        for (int n = 15; n <= 24; n++) {
            halves("a row of " + n, Shapes.row(n), NONE);
            halves("none of " + n, Shapes.none(n), NONE);
        }
    }

    private static void lay(String of, WiredNets x, int w, long length, int... places) {
        String what = "lay in " + w + " columns of " + of;
        Check.due(what, length, () -> x.lay(0, w));
        for (int knot = 0; knot < places.length; knot++) {
            int at = knot;
            Check.due(what + ", laid " + at, places[at], () -> x.laid(at));
        }
        Check.noSuch(what + ", laid n", () -> x.laid(places.length));
        Check.noSuch(what + ", laid -1", () -> x.laid(-1));
    }

    private static int[] inOrder(int n) {
        int[] places = new int[n];
        for (int k = 0; k < n; k++) {
            places[k] = k;
        }
        return places;
    }

    /** Nets that lie best as they are numbered, on one row and on one column, of every size. */
    private static void laysInOrder() {
        for (int n = 1; n <= 24; n++) {
            for (int w : new int[] {1, 24}) {
                lay("none of " + n, Shapes.none(n), w, 0, inOrder(n));
                lay("a row of " + n, Shapes.row(n), w, n - 1, inOrder(n));
                if (n >= 3) {
                    lay("a ring of " + n, Shapes.ring(n), w, 2 * (n - 1), inOrder(n));
                }
            }
            WiredNets x = Shapes.row(n);
            Check.illegal("no column", () -> x.lay(0, 0));
            Check.illegal("25 columns", () -> x.lay(0, 25));
            Check.noSuch("nothing is laid", () -> x.laid(0));
        }
    }

    /** "THE LAY of at most 8 KNOTS: the least LENGTH"; "Of more: .. two KNOTS change places". */
    private static void laysOfEightAndNine() {
        // Changes of two would come to 12 alone.
        String eight = "knots 8 degree 2;row 2 6 7 0 3 1 4 5;";
        lay(eight, of(eight), 24, 7, 3, 5, 0, 4, 6, 7, 1, 2);
        lay(eight, of(eight), 8, 7, 3, 5, 0, 4, 6, 7, 1, 2);
        lay(eight, of(eight), 1, 7, 3, 5, 0, 4, 6, 7, 1, 2);
        // Least of all would be 8.
        String nine = "knots 9 degree 2;row 0 4 5 7 8 6 3 2 1;";
        Twin twin = Twin.of(nine);
        layAs(twin, 24);
        layAs(twin, 1);
        layAs(twin, 3);
        Check.due("nine in a row", 15, () -> twin.wired.lay(0, 9));
        Check.due("nine in three columns", 9, () -> twin.wired.lay(0, 3));
    }

    private static void layAs(Twin twin, int w) {
        String call = "lay in " + w + " columns";
        twin.same(call, twin.plain.lay(0, w), () -> twin.wired.lay(0, w));
        for (int knot = -1; knot <= twin.plain.about(0, 0); knot++) {
            int at = knot;
            twin.same("laid " + at + " by " + call, Check.answerOf(() -> twin.plain.laid(at)), () -> twin.wired.laid(at));
        }
    }

    /** "of like ones the first as a row of PLACES by KNOTS"; "of like ones the lesser one least, then the other". */
    private static void laysOfLikeOnes() {
        lay("two pairs", of("knots 4 degree 1;row 0 3;row 1 2;"), 24, 2, 0, 2, 3, 1);
        lay("two pairs", of("knots 4 degree 1;row 0 2;row 1 3;"), 2, 2, 0, 1, 2, 3);
        lay("two pairs", of("knots 4 degree 1;row 0 3;row 1 2;"), 2, 2, 0, 1, 3, 2);
        lay("one pair of eight", of("knots 8 degree 1;row 6 7;"), 24, 1, 0, 1, 2, 3, 4, 5, 6, 7);
        lay("one pair of eight", of("knots 8 degree 1;row 0 7;"), 24, 1, 0, 2, 3, 4, 5, 6, 7, 1);
        lay("one pair of eight", of("knots 8 degree 1;row 0 7;"), 4, 1, 0, 1, 2, 3, 5, 6, 7, 4);
        // Of nine: 0 with 7, 1 with 8 and others would do; the first one by the lesser, then the other.
        lay("one pair of nine", of("knots 9 degree 1;row 0 8;"), 24, 1, 7, 1, 2, 3, 4, 5, 6, 0, 8);
        lay("one pair of nine", of("knots 9 degree 1;row 0 8;"), 3, 1, 5, 1, 2, 3, 4, 0, 6, 7, 8);
        lay("one pair of nine", of("knots 9 degree 1;row 0 2;"), 24, 1, 1, 0, 2, 3, 4, 5, 6, 7, 8);
        lay("one pair of nine", of("knots 9 degree 1;row 7 8;"), 24, 1, inOrder(9));
    }

    /** PLACES 0 to n - 1 in w columns: the last row need not be full, and w may be more than n. */
    private static void laysOfAllWidths() {
        Twin five = Twin.of("knots 5 degree 3;ring 0 2 4 1 3;row 0 1;");
        Twin eight = Twin.of("knots 8 degree 3;ring 0 3 6 1 4 7 2 5;row 0 4;row 1 5;row 2 6;row 3 7;");
        Twin nine = Twin.of("knots 9 degree 4;ring 0 4 8 3 7 2 6 1 5;row 0 8;row 1 7;row 2 4;");
        Twin most = Twin.turned(0, 24, 1, 1 << 5 | 1 << 19 | 1 << 7 | 1 << 17);
        for (int w = 1; w <= 24; w++) {
            if (w <= 6) {
                layAs(five, w);
            }
            if (w == 3 || w == 8) {
                layAs(eight, w);
            }
            layAs(nine, w);
            if (w % 4 == 1) {
                layAs(most, w);
            }
        }
        layAs(most, 24);
        for (int n = 9; n <= 24; n++) {
            Twin chosen = Twin.chosen(n, 4, n + 4, 5 * n);
            layAs(chosen, n % 5 + 1);
            layAs(chosen, n);
        }
    }

    /** "The PLACE of a KNOT by the latest lay(). NoSuchElementException: it had none such, none yet." */
    private static void laysAreKept() {
        WiredNets x = of("knots 4 degree 1;row 0 3;row 1 2;");
        x.net(1, 24, 1);
        x.net(2, 1, 1);
        for (int knot = -1; knot <= 4; knot++) {
            int at = knot;
            Check.noSuch("none yet", () -> x.laid(at));
        }
        x.lay(0, 24);
        int[] due = {0, 2, 3, 1};
        Check.illegal("no column", () -> x.lay(1, 0));
        Check.illegal("25 columns", () -> x.lay(1, 25));
        Check.noSuch("nothing there", () -> x.lay(7, 1));
        x.net(0, 5, 2);
        for (int knot = 0; knot < 4; knot++) {
            int at = knot;
            Check.due("kept " + at, due[at], () -> x.laid(at));
        }
        Check.noSuch("it had four", () -> x.laid(4));
        x.lay(1, 5);
        Check.due("the last of 24", 23, () -> x.laid(23));
        Check.noSuch("it had 24", () -> x.laid(24));
        x.lay(2, 24);
        Check.due("the only one", 0, () -> x.laid(0));
        Check.noSuch("it had one", () -> x.laid(1));
        Check.noSuch("it had one, not 24", () -> x.laid(23));
    }
}
