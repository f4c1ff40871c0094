/** Promises 13 to 18: the edges of distances, thinness, own numbers and walks. */
public final class MeasureEdgesTest {
    private static final int NONE = WiredNets.NONE;

    private MeasureEdgesTest() {
    }

    public static void main(String[] args) {
        rows();
        rings();
        stars();
        allJoined();
        noneJoined();
        splitNets();
        ringsOfSeveralLengths();
        thinOfLinesAndKnots();
        allButOneLine();
        distances();
        waysApart();
        waysSetFreeAgain();
        polynomialsByFormula();
        twelveAndThirteen();
        ownNumbersByFormula();
        ownNumbersAreGreater();
        walksByFormula();
        walksOfMany();
        Check.end("MeasureEdgesTest");
    }

    /** FAR, SUM, GIRTH, THIN, THIN of KNOTS, PRICE. */
    private static void far(String of, WiredNets x, int far, int sum, int girth, int thin, int knots) {
        int price = far == NONE ? 1000000 : 1000 * far + sum;
        int[] due = {far, sum, girth, thin, knots, price};
        for (int what = 0; what < 6; what++) {
            int at = what;
            Check.due("far " + at + " of " + of, due[at], () -> x.far(0, at));
        }
    }

    private static WiredNets of(String text) {
        WiredNets x = new WiredNets();
        Check.lay(x, 0, text);
        return x;
    }

    /** One KNOT alone: THIN is NONE, THIN of KNOTS n - 1; two joined: n - 1, too. */
    private static void rows() {
        for (int n = 1; n <= 24; n++) {
            far("a row of " + n, Shapes.row(n), n - 1, n * (n * n - 1) / 6, NONE, n == 1 ? NONE : 1, n == 1 ? 0 : 1);
        }
    }

    private static void rings() {
        for (int n = 3; n <= 24; n++) {
            far("a ring of " + n, Shapes.ring(n), n / 2, n * (n * n / 4) / 2, n, 2, 2);
        }
    }

    private static void stars() {
        for (int n = 3; n <= 9; n++) {
            far("a star of " + n, Shapes.star(n), 2, (n - 1) * (n - 1), NONE, 1, 1);
        }
    }

    /** "(n - 1, if there are none)". */
    private static void allJoined() {
        for (int n = 2; n <= 9; n++) {
            far("all of " + n, Shapes.all(n), 1, n * (n - 1) / 2, n == 2 ? NONE : 3, n - 1, n - 1);
        }
    }

    /** "PRICE: .. of one not JOINED 1,000,000"; no LINE and no KNOT need fall. */
    private static void noneJoined() {
        for (int n = 2; n <= 24; n++) {
            far("none of " + n, Shapes.none(n), NONE, NONE, NONE, 0, 0);
        }
    }

    private static void splitNets() {
        far("a ring and a knot", of("knots 4 degree 2;ring 0 1 2;"), NONE, NONE, 3, 0, 0);
        far("a knot and a ring", of("knots 4 degree 2;ring 3 1 2;"), NONE, NONE, 3, 0, 0);
        far("two rows", of("knots 4 degree 2;row 0 1;row 2 3;"), NONE, NONE, NONE, 0, 0);
        far("two of all", of("knots 8 degree 3;all 0 1 2 3;all 4 5 6 7;"), NONE, NONE, 3, 0, 0);
        far("the last knot alone", of("knots 24 degree 2;row 0 1 2 3 4 5 6 7 8 9 10 11;row 11 12 13 14 15 16 17 18 19 20 21"
            + " 22;"), NONE, NONE, NONE, 0, 0);
    }

    /** "GIRTH: fewest LINES of a ring", wherever it is; "NONE: .. no ring". */
    private static void ringsOfSeveralLengths() {
        far("a ring of 3 at the end", of("knots 9 degree 3;ring 0 1 2 3 4;row 4 5 6;ring 6 7 8;"), 5, 92, 3, 1, 1);
        far("a ring of 3 at the beginning", of("knots 9 degree 3;ring 0 1 2;row 2 3 4;ring 4 5 6 7 8;"), 5, 92, 3, 1, 1);
        far("two rings, 4 and 5, split", of("knots 9 degree 2;ring 0 1 2 3 4;ring 5 6 7 8;"), NONE, NONE, 4, 0, 0);
        far("two rings with a line in common", of("knots 6 degree 3;ring 0 1 2 3 4 5;row 0 3;"), 3, 25, 4, 2, 2);
        far("two rings with a line in common, 3 and 5", of("knots 6 degree 3;ring 0 1 2 3 4 5;row 0 2;"), 3, 24, 3, 2, 2);
    }

    /** THIN counts LINES, THIN of KNOTS counts KNOTS. */
    private static void thinOfLinesAndKnots() {
        far("two of all share a knot", of("knots 7 degree 6;all 0 1 2 3;all 3 4 5 6;"), 2, 30, 3, 3, 1);
        far("two of all share the first knot", of("knots 7 degree 6;all 0 1 2 3;all 0 4 5 6;"), 2, 30, 3, 3, 1);
        far("two of all share the last knot", of("knots 7 degree 6;all 6 1 2 3;all 6 4 5 0;"), 2, 30, 3, 3, 1);
        far("two knots between, joined", of("knots 6 degree 5;star 0 1 2 3 4 5;star 5 1 2 3 4;row 1 2;row 3 4;"),
            2, 19, 3, 3, 2);
        far("two sides of 3 and 3", of("knots 6 degree 3;star 0 3 4 5;star 1 3 4 5;star 2 3 4 5;"), 2, 21, 4, 3, 3);
        far("two sides of 2 and 4", of("knots 6 degree 4;star 0 2 3 4 5;star 1 2 3 4 5;"), 2, 22, 4, 2, 2);
        far("a knot at all of 5", of("knots 6 degree 5;all 0 1 2 3 4;row 4 5;"), 2, 19, 3, 1, 1);
        far("the first knot at all of 5", of("knots 6 degree 5;all 1 2 3 4 5;row 0 5;"), 2, 19, 3, 1, 1);
        // The two that must fall are neither the first nor the last ones.
        far("a ring of two of all", of("knots 8 degree 5;all 0 1 2 3;all 4 5 6 7;row 2 4;row 3 5;"), 3, 46, 3, 2, 2);
    }

    /** All joined but one pair: those two are parted by all others, n - 2. */
    private static void allButOneLine() {
        for (int n = 3; n <= 9; n++) {
            for (int b = 1; b < n; b++) {
                WiredNets x = Shapes.all(n);
                x.off(0, b, b / 2);
                far("all of " + n + " but " + b + " " + b / 2, x, 2, n * (n - 1) / 2 + 1, n == 3 ? NONE : 3, n - 2, n - 2);
            }
        }
    }

    /** "NONE: there is no way." */
    private static void distances() {
        WiredNets row = Shapes.row(24);
        for (int a = 0; a < 24; a += 1) {
            int from = a;
            Check.due("from 0 to " + from, from, () -> row.distance(0, 0, from));
            Check.due("from 23 to " + from, 23 - from, () -> row.distance(0, 23, from));
            Check.due("from " + from + " to itself", 0, () -> row.distance(0, from, from));
        }
        WiredNets one = Shapes.none(1);
        Check.due("the only knot", 0, () -> one.distance(0, 0, 0));
        Check.noSuch("no other one", () -> one.distance(0, 0, 1));
        WiredNets none = Shapes.none(24);
        Check.due("no way", NONE, () -> none.distance(0, 0, 23));
        Check.due("no way back", NONE, () -> none.distance(0, 23, 0));
        Check.due("to itself without lines", 0, () -> none.distance(0, 23, 23));
        WiredNets split = of("knots 6 degree 2;row 0 2 4;row 1 3 5;");
        Check.due("within a part", 2, () -> split.distance(0, 0, 4));
        Check.due("between parts", NONE, () -> split.distance(0, 4, 5));
    }

    /** "WAYS APART: most ways between two KNOTS that share no LINE"; "0, if both are one". */
    private static void waysApart() {
        for (int n = 2; n <= 9; n++) {
            WiredNets x = Shapes.all(n);
            int last = n - 1;
            Check.due("all of " + n, last, () -> x.apart(0, 0, last));
            Check.due("back", last, () -> x.apart(0, last, 0));
            Check.due("both are one", 0, () -> x.apart(0, last, last));
        }
        for (int n = 3; n <= 24; n++) {
            int last = n - 1;
            WiredNets ring = Shapes.ring(n);
            Check.due("ring of " + n, 2, () -> ring.apart(0, 0, last));
            WiredNets row = Shapes.row(n);
            Check.due("row of " + n, 1, () -> row.apart(0, last, 0));
            WiredNets none = Shapes.none(n);
            Check.due("none of " + n, 0, () -> none.apart(0, last, 0));
        }
        WiredNets one = Shapes.none(1);
        Check.due("the only knot", 0, () -> one.apart(0, 0, 0));
        // Ways may share KNOTS: all of them go through knot 3.
        WiredNets x = of("knots 7 degree 6;all 0 1 2 3;all 3 4 5 6;");
        Check.due("through one knot", 3, () -> x.apart(0, 0, 6));
        Check.due("through one knot, back", 3, () -> x.apart(0, 6, 0));
        // 0 has three LINES and 5 has three, but two alone lead across.
        WiredNets y = of("knots 8 degree 4;all 0 1 2 3;all 4 5 6 7;row 0 4;row 1 5;");
        Check.due("two lead across", 2, () -> y.apart(0, 2, 6));
        Check.due("two lead across from where they begin", 2, () -> y.apart(0, 0, 5));
        Check.due("within, one more over the others", 4, () -> y.apart(0, 0, 1));
        y.off(0, 0, 4);
        y.off(0, 1, 5);
        Check.due("none leads across", 0, () -> y.apart(0, 0, 4));
        WiredNets full = new WiredNets();
        full.turned(0, 0, 24, 1, 0b111100000000000000011110);
        for (int b = 1; b < 24; b++) {
            int to = b;
            Check.due("eight ways to " + to, 8, () -> full.apart(0, 0, to));
        }
    }

    /**
     * Who finds ways one behind another must set a LINE free again here, which an earlier way took and a later one
     * went back on: otherwise the last way is not found, or one too many is.
     */
    private static void waysSetFreeAgain() {
        int[][] nets = {{1048584, 614400, 4680, 524549, 2098944, 4194368, 266276, 8472576, 2097176, 132116, 528, 8945792, 294980,
            8404994, 73858, 268288, 16514, 3146240, 36928, 4196362, 6422529, 1179920, 9961504, 4204672},
            {90112, 11141152, 6480, 4194384, 4194380, 393346, 2076, 2360864, 8945668, 2228352, 2121856, 4231236, 4229124,
            1377281, 328705, 137472, 1073153, 8946210, 2121888, 8519938, 73728, 263810, 6168, 655618},
            {3616, 12, 2562, 2066, 2184, 5633, 1280, 16, 1600, 4389, 4449, 29, 1568}};
        int[][] due = {{7, 21, 4}, {4, 0, 3}, {8, 3, 2}};
        for (int i = 0; i < nets.length; i++) {
            int n = nets[i].length;
            Twin twin = Twin.of(n + " knots", n, 8);
            for (int a = 0; a < n; a++) {
                for (int b = a + 1; b < n; b++) {
                    if ((nets[i][a] >> b & 1) == 1) {
                        Check.hold("line", twin.wired.line(0, a, b) && twin.plain.line(0, a, b));
                    }
                }
            }
            int[] d = due[i];
            Check.due("apart " + d[0] + " " + d[1], d[2], () -> twin.wired.apart(0, d[0], d[1]));
            Check.due("apart " + d[1] + " " + d[0], d[2], () -> twin.wired.apart(0, d[1], d[0]));
            Check.same("plain", d[2], twin.plain.apart(0, d[0], d[1]));
        }
    }

    /** The determinant of a row comes from those of two shorter rows; all joined: (x - n + 1) (x + 1)^(n - 1). */
    private static void polynomialsByFormula() {
        long[][] rows = new long[13][];
        rows[0] = new long[] {1};
        rows[1] = new long[] {0, 1};
        for (int n = 2; n <= 12; n++) {
            rows[n] = new long[n + 1];
            for (int k = 0; k <= n; k++) {
                rows[n][k] = (k > 0 ? rows[n - 1][k - 1] : 0) - (k <= n - 2 ? rows[n - 2][k] : 0);
            }
        }
        for (int n = 1; n <= 12; n++) {
            poly("row of " + n, Shapes.row(n), rows[n]);
            long[] none = new long[n + 1];
            none[n] = 1;
            poly("none of " + n, Shapes.none(n), none);
            if (n >= 3) {
                long[] ring = rows[n].clone();
                for (int k = 0; k <= n - 2; k++) {
                    ring[k] -= rows[n - 2][k];
                }
                ring[0] -= 2;
                poly("ring of " + n, Shapes.ring(n), ring);
            }
        }
        for (int n = 1; n <= 9; n++) {
            long[] all = {1};
            for (int i = 1; i < n; i++) {
                all = times(all, 1);
            }
            poly("all of " + n, Shapes.all(n), times(all, 1 - n));
        }
    }

    /** A polynomial times x + c. */
    private static long[] times(long[] p, long c) {
        long[] out = new long[p.length + 1];
        for (int k = 0; k < p.length; k++) {
            out[k + 1] += p[k];
            out[k] += c * p[k];
        }
        return out;
    }

    private static void poly(String of, WiredNets x, long[] due) {
        for (int k = 0; k < due.length; k++) {
            int at = k;
            Check.due("poly " + at + " of " + of, due[at], () -> x.poly(0, at));
        }
        Check.noSuch("poly -1 of " + of, () -> x.poly(0, -1));
        Check.noSuch("poly n + 1 of " + of, () -> x.poly(0, due.length));
    }

    /** "more than 12 KNOTS": twelve are fine. */
    private static void twelveAndThirteen() {
        for (int n = 12; n <= 24; n++) {
            WiredNets x = Shapes.row(n);
            int last = n;
            if (n == 12) {
                Check.due("poly of 12", 1, () -> x.poly(0, 12));
                Check.due("above of 12", 6, () -> x.above(0, 0));
                continue;
            }
            for (int k = 0; k <= n; k++) {
                int at = k;
                Check.illegal("poly " + at + " of " + last, () -> x.poly(0, at));
            }
            for (int at = -14; at <= 14; at++) {
                int over = at;
                Check.illegal("above " + over + " of " + last, () -> x.above(0, over));
            }
        }
    }

    /** Rows and rings have the OWN NUMBERS 2 cos(k pi / (n + 1)) and 2 cos(2 k pi / n). */
    private static void ownNumbersByFormula() {
        for (int n = 1; n <= 12; n++) {
            double[] row = new double[n];
            double[] ring = new double[n];
            for (int k = 0; k < n; k++) {
                row[k] = 2 * Math.cos((k + 1) * Math.PI / (n + 1));
                ring[k] = 2 * Math.cos(2 * k * Math.PI / n);
            }
            above("row of " + n, Shapes.row(n), row);
            above("none of " + n, Shapes.none(n), new double[n]);
            if (n >= 3) {
                above("ring of " + n, Shapes.ring(n), ring);
            }
        }
        for (int n = 1; n <= 9; n++) {
            double[] all = new double[n];
            double[] star = new double[n];
            for (int k = 1; k < n; k++) {
                all[k] = -1;
            }
            all[0] = n - 1;
            star[0] = Math.sqrt(n - 1);
            star[n - 1] = -Math.sqrt(n - 1);
            above("all of " + n, Shapes.all(n), all);
            above("star of " + n, Shapes.star(n), star);
        }
    }

    /** "greater than x (-12 to 12; as often as they are roots)". */
    private static void above(String of, WiredNets x, double[] numbers) {
        for (int at = -12; at <= 12; at++) {
            int over = at;
            int many = 0;
            for (double number : numbers) {
                many += number > at + 1e-9 ? 1 : 0;
            }
            Check.due("above " + over + " of " + of, many, () -> x.above(0, over));
        }
        Check.illegal("above -13 of " + of, () -> x.above(0, -13));
        Check.illegal("above 13 of " + of, () -> x.above(0, 13));
    }

    /** An OWN NUMBER that is x itself doesn't count, as often as it may be there. */
    private static void ownNumbersAreGreater() {
        // Two of all of four: 3 twice, -1 six times; and four knots alone: 0 four times.
        WiredNets x = of("knots 12 degree 3;all 0 1 2 3;all 8 9 10 11;");
        int[] due = {12, 12, 6, 2, 2, 2, 0, 0};
        for (int i = 0; i < due.length; i++) {
            int at = i;
            Check.due("above " + (at - 3), due[at], () -> x.above(0, at - 3));
        }
        // Six pairs: 1 and -1, six times each.
        WiredNets pairs = of("knots 12 degree 1;row 0 1;row 2 3;row 4 5;row 6 7;row 8 9;row 10 11;");
        int[] of = {12, 6, 6, 0, 0};
        for (int i = 0; i < of.length; i++) {
            int at = i;
            Check.due("pairs above " + (at - 2), of[at], () -> pairs.above(0, at - 2));
        }
        Check.due("pairs, poly", 15, () -> pairs.poly(0, 8));
    }

    /** WALKS are the sums of the OWN NUMBERS' powers. */
    private static void walksByFormula() {
        for (int n = 1; n <= 24; n++) {
            double[] row = new double[n];
            double[] ring = new double[n];
            for (int k = 0; k < n; k++) {
                row[k] = 2 * Math.cos((k + 1) * Math.PI / (n + 1));
                ring[k] = 2 * Math.cos(2 * k * Math.PI / n);
            }
            walks("row of " + n, Shapes.row(n), row);
            walks("none of " + n, Shapes.none(n), new double[n]);
            if (n >= 3) {
                walks("ring of " + n, Shapes.ring(n), ring);
            }
        }
    }

    /** "k is not 0 to 10": WALKS of no steps are the KNOTS. */
    private static void walks(String of, WiredNets x, double[] numbers) {
        for (int k = 0; k <= 10; k++) {
            int steps = k;
            double sum = 0;
            for (double number : numbers) {
                double power = 1;
                for (int i = 0; i < k; i++) {
                    power *= number;
                }
                sum += power;
            }
            Check.due("walks " + k + " of " + of, Math.round(sum), () -> x.walks(0, steps));
        }
        Check.illegal("walks -1 of " + of, () -> x.walks(0, -1));
        Check.illegal("walks 11 of " + of, () -> x.walks(0, 11));
    }

    /** More than an int holds. */
    private static void walksOfMany() {
        WiredNets x = of("knots 18 degree 8;all 0 1 2 3 4 5 6 7 8;all 9 10 11 12 13 14 15 16 17;");
        long eighth = 1;
        for (int k = 0; k <= 10; k++) {
            int steps = k;
            long due = 2 * (eighth + (k % 2 == 0 ? 8 : -8));
            Check.due("walks " + k + " of two of all", due, () -> x.walks(0, steps));
            eighth *= 8;
        }
        WiredNets y = new WiredNets();
        y.turned(0, 0, 24, 1, 0b111100000000000000011110);
        PlainNets plain = new PlainNets();
        plain.turned(0, 0, 24, 1, 0b111100000000000000011110);
        for (int k = 0; k <= 10; k++) {
            int steps = k;
            Check.due("walks " + k + " of 24 knots", plain.walks(0, steps), () -> y.walks(0, steps));
        }
    }
}
