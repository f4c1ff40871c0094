import java.math.BigInteger;

/** Promises 19 to 21, 25, 37 and 38: the edges of changes, of cooling, of bounds, of growing and of missing lines. */
public final class ChangeEdgesTest {
    private static final int NONE = WiredNets.NONE;
    private static final String PETERSEN = "knots 10 degree 3;ring 0 1 2 3 4;row 0 5;row 1 6;row 2 7;row 3 8;row 4 9;"
        + "ring 5 7 9 6 8;";
    private static final int[] SEEDS = {0, 1, -1, Integer.MAX_VALUE, Integer.MIN_VALUE, 12345, 1103515245, 65535, 1 << 16,
        -65536, 0x7fff0000, 0x5a5a5a5a};

    private ChangeEdgesTest() {
    }

    public static void main(String[] args) {
        changesOfTheLastLines();
        changesKeepDegrees();
        betterOfTwelve();
        betterWithoutChange();
        betterOfLikeOnes();
        seedsThatWrap();
        stepsAndHeats();
        heatJustEnough();
        heatIsOneLess();
        heatIsAtLeastNothing();
        linesThatAreAlike();
        coolingOfTheGreatest();
        bounds();
        growRows();
        growRings();
        growDegrees();
        growNone();
        growOfLikeOnes();
        growOfSplitNets();
        missingNone();
        missingOfFullKnots();
        missingOfSplitNets();
        Check.end("ChangeEdgesTest");
    }

    private static WiredNets of(String text) {
        WiredNets x = new WiredNets();
        Check.lay(x, 0, text);
        return x;
    }

    private static void changed(String text, int i, int j, boolean crossed, String net) {
        WiredNets x = of(text);
        boolean due = net != null;
        String before = Seen.slot(x, 0);
        String what = "change " + i + " " + j + " " + crossed + " of " + text;
        Check.due(what, Check.bit(due), () -> Check.bit(x.change(0, i, j, crossed)));
        Check.text(what, due ? net : before, Seen.slot(x, 0));
    }

    /** "a and b, c and d, the lesser first): they go, a and c, b and d are joined (or, CROSSED, a and d, b and c)". */
    private static void changesOfTheLastLines() {
        changed("knots 4 degree 1;row 0 1;row 2 3;", 0, 1, false, "4 1: 0-2 1-3");
        changed("knots 4 degree 1;row 0 1;row 2 3;", 0, 1, true, "4 1: 0-3 1-2");
        changed("knots 4 degree 1;row 0 3;row 1 2;", 0, 1, false, "4 1: 0-1 2-3");
        changed("knots 4 degree 1;row 0 3;row 1 2;", 0, 1, true, "4 1: 0-2 1-3");
        changed("knots 4 degree 1;row 0 2;row 1 3;", 0, 1, false, "4 1: 0-1 2-3");
        changed("knots 4 degree 1;row 0 2;row 1 3;", 0, 1, true, "4 1: 0-3 1-2");
        // In each way two LINES may have a KNOT in common.
        for (boolean crossed : new boolean[] {false, true}) {
            changed("knots 4 degree 2;row 1 0 2;", 0, 1, crossed, null);
            changed("knots 4 degree 2;row 0 1 2;", 0, 1, crossed, null);
            changed("knots 4 degree 2;row 0 2 1;", 0, 1, crossed, null);
            changed("knots 4 degree 3;all 0 1 2 3;", 0, 5, crossed, null);
        }
        // One of the new LINES is there: a c, b d, a d, b c.
        changed("knots 4 degree 2;row 0 1;row 2 3;row 0 2;", 0, 2, false, null);
        changed("knots 4 degree 2;row 0 1;row 2 3;row 1 3;", 0, 2, false, null);
        changed("knots 4 degree 2;row 0 1;row 2 3;row 0 3;", 0, 2, true, null);
        changed("knots 4 degree 2;row 0 1;row 2 3;row 1 2;", 0, 2, true, null);
        changed("knots 4 degree 2;row 0 1;row 2 3;row 0 2;", 0, 2, true, "4 2: 0-2 0-3 1-2");
        changed("knots 4 degree 2;row 0 1;row 2 3;row 1 3;", 0, 2, true, "4 2: 0-3 1-2 1-3");
        changed("knots 4 degree 2;row 0 1;row 2 3;row 0 3;", 0, 2, false, "4 2: 0-2 0-3 1-3");
        changed("knots 4 degree 2;row 0 1;row 2 3;row 1 2;", 0, 2, false, "4 2: 0-2 1-2 1-3");
        WiredNets x = new WiredNets();
        x.turned(0, 0, 24, 1, 1 << 1 | 1 << 23);
        Check.due("the first and the last but one", 1, () -> Check.bit(x.change(0, 0, 22, false)));
        Check.noSuch("behind the last", () -> Check.bit(x.change(0, 0, 24, false)));
        Check.due("21 22 is now joined with 0", 1, () -> x.distance(0, 0, 21));
        Check.due("and with 1", 1, () -> x.distance(0, 1, 22));
    }

    /** A CHANGE leaves each KNOT as many LINES as it had, so that DEGREE never bars it. */
    private static void changesKeepDegrees() {
        WiredNets x = of("knots 24 degree 1;row 0 1;row 22 23;");
        Check.due("full knots", 1, () -> Check.bit(x.change(0, 0, 1, true)));
        Check.text("full knots", "24 1: 0-23 1-22", Seen.slot(x, 0));
        Check.due("back", 1, () -> Check.bit(x.change(0, 0, 1, false)));
        Check.text("back", "24 1: 0-1 22-23", Seen.slot(x, 0));
    }

    private static void betterAs(Twin twin) {
        twin.same("better", twin.plain.better(0), () -> twin.wired.better(0));
        twin.sameNet("better");
        twin.same("better again", 0, () -> twin.wired.better(0));
        twin.sameNet("better again");
    }

    /** "NONE: more than 12 KNOTS." Twelve are fine. */
    private static void betterOfTwelve() {
        for (int n = 4; n <= 12; n++) {
            betterAs(Twin.like("ring of " + n, Shapes.ring(n)));
            betterAs(Twin.like("row of " + n, Shapes.row(n)));
            betterAs(Twin.chosen(n, 3, 3 * n / 2, n));
            betterAs(Twin.chosen(n, 4, 3 * n / 2, 100 + n));
        }
        betterAs(Twin.of("knots 12 degree 3;ring 0 1 2 3 4 5 6 7 8 9 10 11;row 0 2;row 1 3;row 4 6;row 5 7;row 8 10;row 9 11;"));
        betterAs(Twin.of("knots 12 degree 3;ring 0 1 2 3 4 5;ring 6 7 8 9 10 11;row 0 6;row 1 7;row 2 8;row 3 9;row 4 10;"
            + "row 5 11;"));
        for (int n = 13; n <= 24; n++) {
            WiredNets x = Shapes.row(n);
            String before = Seen.slot(x, 0);
            Check.due("better of " + n, NONE, () -> x.better(0));
            Check.text("better of " + n, before, Seen.slot(x, 0));
        }
    }

    private static void betterWithoutChange() {
        for (int n = 1; n <= 12; n++) {
            WiredNets none = Shapes.none(n);
            Check.due("better without lines", 0, () -> none.better(0));
        }
        for (int n = 2; n <= 9; n++) {
            WiredNets all = Shapes.all(n);
            Check.due("better of all", 0, () -> all.better(0));
            Check.due("all lines are there", n * (n - 1) / 2, () -> all.about(0, 2));
        }
        WiredNets one = of("knots 2 degree 1;row 0 1;");
        Check.due("the only line", 0, () -> one.better(0));
        WiredNets three = of("knots 9 degree 2;ring 0 1 2;ring 3 4 5;ring 6 7 8;");
        Check.due("not joined before and behind", 0, () -> three.better(0));
        Check.text("it stays", "9 2: 0-1 0-2 1-2 3-4 3-5 4-5 6-7 6-8 7-8", Seen.slot(three, 0));
    }

    /** "of like ones the least i, then j, then not CROSSED". */
    private static void betterOfLikeOnes() {
        WiredNets x = of("knots 8 degree 2;ring 0 1 2 3;ring 4 5 6 7;");
        Check.due("all changes of two lines join", 1, () -> x.better(0));
        Check.text("the first one", "8 2: 0-3 0-4 1-2 1-5 2-3 4-7 5-6 6-7", Seen.slot(x, 0));
        // 0-1 and 4-5 can be changed only crossed, for 1-5 is there.
        betterAs(Twin.of("knots 8 degree 3;ring 0 1 2 3;ring 4 5 6 7;row 1 5;"));
        betterAs(Twin.of("knots 8 degree 3;ring 0 1 2 3;ring 4 5 6 7;row 0 4;"));
        betterAs(Twin.of("knots 6 degree 2;ring 0 1 2;ring 3 4 5;"));
        betterAs(Twin.of("knots 10 degree 3;ring 0 1 2 3 4 5 6 7 8 9;row 0 5;row 1 9;row 2 8;row 3 7;row 4 6;"));
        betterAs(Twin.of("knots 10 degree 3;ring 0 1 2 3 4 5 6 7 8 9;row 0 2;row 1 3;row 4 6;row 5 7;"));
    }

    private static void coolAs(Twin twin, int seed, int steps, int heat) {
        String call = "cool " + seed + " " + steps + " " + heat;
        twin.same(call, twin.plain.cool(0, seed, steps, heat), () -> twin.wired.cool(0, seed, steps, heat));
        twin.sameNet(call);
    }

    /** "the seed becomes itself times 1103515245 and 12345 (an int that wraps)". */
    private static void seedsThatWrap() {
        for (int seed : SEEDS) {
            for (int heat : new int[] {0, 3, 1100, 10000}) {
                coolAs(Twin.of(PETERSEN), seed, 25, heat);
                coolAs(Twin.of("knots 7 degree 2;ring 0 1 2 3 4 5 6;"), seed, 25, heat);
            }
        }
        // The first three draws of seed 1 by hand: 1103527590, 2524885223, 662824084 (of 2^32): bits 16838, 5758, 10113.
        // Of three LINES: 16838 MOD 3 is 2, 5758 MOD 3 is 1, CROSSED (10113 is odd): 2-5 and 3-4 go.
        WiredNets x = of("knots 6 degree 1;row 0 1;row 2 5;row 3 4;");
        Check.due("one step", 1, () -> x.cool(0, 1, 1, 0));
        Check.text("LINES 1 and 2, crossed", "6 1: 0-1 2-4 3-5", Seen.slot(x, 0));
    }

    /** "steps are not 0 to 500, HEAT is not 0 to 10,000"; "(0 without LINES)". */
    private static void stepsAndHeats() {
        WiredNets x = of(PETERSEN);
        String before = Seen.slot(x, 0);
        for (int heat : new int[] {0, 10000}) {
            Check.due("no steps", 0, () -> x.cool(0, 77, 0, heat));
            Check.text("no steps", before, Seen.slot(x, 0));
        }
        int[][] wrong = {{-1, 0}, {501, 0}, {0, -1}, {0, 10001}, {-1, -1}, {501, 10001}, {500, 10001}, {501, 10000}};
        for (int[] w : wrong) {
            Check.illegal("steps " + w[0] + ", heat " + w[1], () -> x.cool(0, 77, w[0], w[1]));
            Check.text("nothing changes", before, Seen.slot(x, 0));
        }
        coolAs(Twin.of(PETERSEN), 77, 500, 10000);
        coolAs(Twin.of(PETERSEN), 77, 500, 0);
        coolAs(Twin.of(PETERSEN), 77, 500, 1);
        coolAs(Twin.of(PETERSEN), 77, 1, 10000);
        for (int n : new int[] {1, 2, 24}) {
            WiredNets none = Shapes.none(n);
            Check.due("without lines", 0, () -> none.cool(0, 5, 500, 10000));
            Check.due("without lines and steps", 0, () -> none.cool(0, 5, 0, 0));
            Check.illegal("without lines, steps", () -> none.cool(0, 5, 501, 0));
        }
    }

    /** The draws of some steps, reckoned in 64 bits: two LINES, the lesser first, and whether CROSSED. */
    private static int[] draws(int seed, int step, int lines) {
        long state = seed & 0xffffffffL;
        int[] out = new int[3];
        for (int i = 0; i < 3 * (step + 1); i++) {
            state = (state * 1103515245L + 12345L) & 0xffffffffL;
            out[i % 3] = (int) (state >> 16 & 0x7fff) % (i % 3 < 2 ? lines : 2);
        }
        return new int[] {Math.min(out[0], out[1]), Math.max(out[0], out[1]), out[2]};
    }

    /** How much PRICE goes up by the change of a step; less than -1000000: it can't be. */
    private static int rise(String text, int[] draw) {
        WiredNets x = of(text);
        int before = x.far(0, 5);
        if (draw[0] == draw[1] || !x.change(0, draw[0], draw[1], draw[2] == 1)) {
            return Integer.MIN_VALUE;
        }
        return x.far(0, 5) - before;
    }

    /** "and PRICE is no more than it was and HEAT, it is made". */
    private static void heatJustEnough() {
        int tried = 0;
        for (int seed = 0; seed < 200; seed++) {
            int s = seed;
            int rise = rise(PETERSEN, draws(seed, 0, 15));
            if (rise > 0) {
                tried++;
                WiredNets x = of(PETERSEN);
                Check.due("one degree too cold, seed " + s, 0, () -> x.cool(0, s, 1, rise - 1));
                Check.due("price", 2075, () -> x.far(0, 5));
                Check.due("just hot enough, seed " + s, 1, () -> x.cool(0, s, 1, rise));
                Check.due("price", 2075 + rise, () -> x.far(0, 5));
            } else {
                WiredNets x = of(PETERSEN);
                Check.due("can't be, seed " + s, 0, () -> x.cool(0, s, 1, 10000));
            }
        }
        Check.hold("seeds that change: " + tried, tried > 50);
    }

    /** "then HEAT is 1 less": behind each step, whether a CHANGE was made or not. */
    private static void heatIsOneLess() {
        int tried = 0;
        for (int seed = 0; seed < 600; seed++) {
            int s = seed;
            int first = rise(PETERSEN, draws(seed, 0, 15));
            int second = rise(PETERSEN, draws(seed, 1, 15));
            if (first == Integer.MIN_VALUE && second > 0) {
                tried++;
                WiredNets x = of(PETERSEN);
                Check.due("one less is too cold, seed " + s, 0, () -> x.cool(0, s, 2, second));
                Check.due("one less is enough, seed " + s, 1, () -> x.cool(0, s, 2, second + 1));
                Check.due("price", 2075 + second, () -> x.far(0, 5));
            }
        }
        Check.hold("seeds that change in the second step: " + tried, tried > 20);
    }

    /** "at least 0": PRICE may stay as it was, however many steps have gone. */
    private static void heatIsAtLeastNothing() {
        String split = "knots 8 degree 1;row 0 1;row 2 3;row 4 5;";
        for (int heat = 0; heat < 4; heat++) {
            Twin twin = Twin.of(split);
            int possible = 0;
            for (int step = 0; step < 500; step++) {
                int[] draw = draws(9, step, 3);
                possible += draw[0] != draw[1] ? 1 : 0;
            }
            int hot = heat;
            int due = possible;
            Check.due("all of unlike lines are changed, heat " + hot, due, () -> twin.wired.cool(0, 9, 500, hot));
            twin.plain.cool(0, 9, 500, heat);
            twin.sameNet("cool");
        }
    }

    /** "(they being unlike)". */
    private static void linesThatAreAlike() {
        WiredNets one = of("knots 4 degree 1;row 1 2;");
        for (int seed : SEEDS) {
            Check.due("the only line", 0, () -> one.cool(0, seed, 500, 10000));
        }
        Check.text("the only line", "4 1: 1-2", Seen.slot(one, 0));
        WiredNets touching = of("knots 4 degree 2;row 1 2 3;");
        for (int seed : SEEDS) {
            Check.due("a knot in common", 0, () -> touching.cool(0, seed, 500, 10000));
        }
    }

    private static void coolingOfTheGreatest() {
        coolAs(Twin.turned(0, 24, 1, 1 << 1 | 1 << 23), 3, 120, 10000);
        coolAs(Twin.turned(0, 24, 1, 1 << 1 | 1 << 23 | 1 << 12), 4, 120, 700);
        coolAs(Twin.turned(0, 24, 1, 0b111100000000000000011110), 5, 60, 40);
        coolAs(Twin.turned(1, 12, 2, 0b111000000000000), -6, 60, 0);
    }

    /** "1, and d times (d less 1) to the power of 0 to k - 1, together; at most 1,000,000,000." */
    private static void bounds() {
        WiredNets x = new WiredNets();
        BigInteger most = BigInteger.valueOf(1000000000);
        for (int d = 1; d <= 8; d++) {
            BigInteger sum = BigInteger.ONE;
            for (int k = 0; k <= 24; k++) {
                int degree = d;
                int far = k;
                Check.due("bound " + d + " " + k, sum.min(most).longValue(), () -> x.bound(degree, far));
                sum = sum.add(BigInteger.valueOf(d).multiply(BigInteger.valueOf(d - 1).pow(k)));
            }
        }
        int[][] wrong = {{0, 0}, {9, 0}, {1, -1}, {1, 25}, {0, 25}, {9, -1}, {-1, 3}, {3, Integer.MAX_VALUE},
            {Integer.MIN_VALUE, 1}};
        for (int[] w : wrong) {
            Check.illegal("bound " + w[0] + " " + w[1], () -> x.bound(w[0], w[1]));
        }
    }

    /** A row stays a row, up to 24 KNOTS: "NONE (nothing changes): it has 24 KNOTS". */
    private static void growRows() {
        WiredNets x = of("knots 2 degree 1;row 0 1;");
        for (int n = 3; n <= 24; n++) {
            int price = 1000 * (n - 1) + n * (n * n - 1) / 6;
            int knots = n;
            Check.due("row grown to " + n, price, () -> x.grow(0, 1));
            Check.due("price of it", price, () -> x.far(0, 5));
            Check.due("knots", knots, () -> x.about(0, 0));
            Check.due("lines", knots - 1, () -> x.about(0, 2));
            Check.due("DEGREE", 2, () -> x.about(0, 1));
        }
        // The first LINE was pulled each time: 0-1, then 0-2, 0-3 ..
        Check.due("0 and the last", 1, () -> x.distance(0, 0, 23));
        Check.due("1 and 2", 1, () -> x.distance(0, 1, 2));
        String before = Seen.slot(x, 0);
        for (int pulls = 1; pulls <= 2; pulls++) {
            int by = pulls;
            Check.due("24 knots", NONE, () -> x.grow(0, by));
            Check.text("nothing changes", before, Seen.slot(x, 0));
        }
    }

    private static void growRings() {
        for (int n = 3; n <= 23; n++) {
            int more = n + 1;
            WiredNets x = Shapes.ring(n);
            int price = 1000 * (more / 2) + more * (more * more / 4) / 2;
            Check.due("ring of " + n, price, () -> x.grow(0, 1));
            Check.due("0 and the new one", 1, () -> x.distance(0, 0, more - 1));
            Check.due("1 and the new one", 1, () -> x.distance(0, 1, more - 1));
            Check.due("0 and 1 no more", 2, () -> x.distance(0, 0, 1));
        }
    }

    /** "DEGREE grows to 2 or 4 if it was less." */
    private static void growDegrees() {
        for (int degree = 1; degree <= 8; degree++) {
            WiredNets x = new WiredNets();
            x.net(0, 4, degree);
            x.line(0, 0, 1);
            x.line(0, 2, 3);
            x.copy(0, 1);
            int one = Math.max(2, degree);
            int two = Math.max(4, degree);
            Check.due("by one line", 1000000, () -> x.grow(0, 1));
            Check.due("DEGREE by one line, was " + degree, one, () -> x.about(0, 1));
            Check.text("by one line", "5 " + one + ": 0-4 1-4 2-3", Seen.slot(x, 0));
            Check.due("by two lines", 2016, () -> x.grow(1, 2));
            Check.text("DEGREE by two lines, was " + degree, "5 " + two + ": 0-4 1-4 2-4 3-4", Seen.slot(x, 1));
        }
        // The new DEGREE counts at once.
        WiredNets x = of("knots 4 degree 1;row 0 1;");
        x.grow(0, 1);
        Check.due("a second line at 0", 1, () -> Check.bit(x.line(0, 0, 2)));
        Check.due("no third one", 0, () -> Check.bit(x.line(0, 0, 3)));
    }

    /** "or there are no such LINES": none, one alone, none that share no KNOT. */
    private static void growNone() {
        String[] texts = {"knots 1 degree 1;", "knots 5 degree 3;"};
        for (String text : texts) {
            growsNot(text, 1);
            growsNot(text, 2);
        }
        String[] touching = {"knots 2 degree 1;row 0 1;", "knots 5 degree 3;row 3 4;", "knots 3 degree 2;row 0 1 2;",
            "knots 3 degree 2;ring 0 1 2;", "knots 9 degree 8;star 0 1 2 3 4 5 6 7 8;", "knots 9 degree 8;star 8 0 1 2 3 4 5 6 7;",
            "knots 9 degree 8;star 4 0 1 2 3 5 6 7 8;"};
        for (String text : touching) {
            growsNot(text, 2);
            WiredNets x = of(text);
            Check.hold("by one line: " + text, x.grow(0, 1) != NONE);
        }
        growsNot("knots 24 degree 2;", 1);
        growsNot("knots 24 degree 2;row 0 1;row 2 3;", 1);
        growsNot("knots 24 degree 2;row 0 1;row 2 3;", 2);
        WiredNets last = of("knots 23 degree 2;row 0 1;row 2 3;");
        Check.due("23 knots", 1000000, () -> last.grow(0, 2));
        Check.text("23 knots", "24 4: 0-23 1-23 2-23 3-23", Seen.slot(last, 0));
    }

    private static void growsNot(String text, int pulls) {
        WiredNets x = of(text);
        String before = Seen.slot(x, 0);
        Check.due("grow by " + pulls + " of " + text, NONE, () -> x.grow(0, pulls));
        Check.text("nothing changes of " + text, before, Seen.slot(x, 0));
    }

    private static void growAs(Twin twin, int pulls) {
        twin.same("grow by " + pulls, twin.plain.grow(0, pulls), () -> twin.wired.grow(0, pulls));
        twin.sameNet("grow by " + pulls);
    }

    /** "that choice of LINES by which PRICE is least, of like ones the first as a row". */
    private static void growOfLikeOnes() {
        for (int n = 4; n <= 9; n++) {
            for (int pulls = 1; pulls <= 2; pulls++) {
                growAs(Twin.like("all of " + n, Shapes.all(n)), pulls);
                growAs(Twin.like("star of " + n, Shapes.star(n)), pulls);
            }
        }
        for (int n = 4; n <= 16; n++) {
            for (int pulls = 1; pulls <= 2; pulls++) {
                growAs(Twin.like("ring of " + n, Shapes.ring(n)), pulls);
                growAs(Twin.chosen(n, 4, n + 3, n), pulls);
            }
        }
        growAs(Twin.of(PETERSEN), 1);
        growAs(Twin.of(PETERSEN), 2);
        growAs(Twin.turned(0, 23, 1, 1 << 1 | 1 << 22), 2);
        growAs(Twin.turned(0, 22, 1, 1 << 1 | 1 << 21 | 1 << 11), 2);
    }

    private static void growOfSplitNets() {
        growAs(Twin.of("knots 6 degree 2;ring 0 1 2;ring 3 4 5;"), 1);
        growAs(Twin.of("knots 6 degree 2;ring 0 1 2;ring 3 4 5;"), 2);
        growAs(Twin.of("knots 7 degree 2;row 0 1;row 2 3;row 4 5;"), 1);
        growAs(Twin.of("knots 7 degree 2;row 0 1;row 2 3;row 4 5;"), 2);
        growAs(Twin.of("knots 8 degree 3;ring 0 1 2;row 3 4 5 6 7;"), 2);
    }

    private static void missing(String of, WiredNets x, long due) {
        String before = Seen.slot(x, 0);
        Check.due("missing of " + of, due, () -> x.missing(0));
        Check.text("nothing changes of " + of, before, Seen.slot(x, 0));
    }

    /** "NONE: all are joined." */
    private static void missingNone() {
        for (int n = 1; n <= 9; n++) {
            missing("all of " + n, Shapes.all(n), NONE);
        }
        for (int n = 2; n <= 9; n++) {
            for (int b = 1; b < n; b++) {
                int a = b - 1;
                WiredNets x = Shapes.all(n);
                x.off(0, a, b);
                missing("all but one of " + n, x, 32 * a + b);
            }
        }
        missing("two knots", Shapes.none(2), 1);
        missing("24 knots", Shapes.none(24), 1);
    }

    /** "(LINES are not counted by DEGREE)". */
    private static void missingOfFullKnots() {
        for (int n = 4; n <= 24; n++) {
            Twin ring = Twin.like("ring of " + n, Shapes.ring(n));
            missing(ring.name(), ring.wired, ring.plain.missing(0));
            Twin row = Twin.like("row of " + n, Shapes.row(n));
            missing(row.name(), row.wired, row.plain.missing(0));
        }
        missing("full pairs", of("knots 4 degree 1;row 0 1;row 2 3;"), 2);
        missing("a row, 2 is full", of("knots 4 degree 2;row 0 1 2 3;"), 2);
        Twin full = Twin.turned(0, 24, 1, 0b111100000000000000011110);
        missing(full.name(), full.wired, full.plain.missing(0));
    }

    /** The pair that joins two parts, and of three parts the first pair. */
    private static void missingOfSplitNets() {
        missing("a row and a knot", of("knots 4 degree 2;row 0 1 2;"), 32 + 3);
        missing("a knot and a row", of("knots 4 degree 2;row 1 2 3;"), 2);
        missing("three parts", of("knots 5 degree 2;row 0 1;row 2 3;"), 2);
        missing("three parts, the first knots all joined", of("knots 5 degree 2;ring 0 1 2;"), 3);
        missing("four parts, 0 and 1 not joined", of("knots 6 degree 2;row 2 3 4;"), 1);
    }
}
