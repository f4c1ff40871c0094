/** Promises 13 to 18: how far and how thin nets are, their own numbers, walks. */
public final class MeasureTest {
    private static final String PETERSEN = "knots 10 degree 3;ring 0 1 2 3 4;row 0 5;row 1 6;row 2 7;row 3 8;row 4 9;"
        + "ring 5 7 9 6 8;";

    private MeasureTest() {
    }

    public static void main(String[] args) {
        distances();
        measures();
        thinness();
        wrongMeasures();
        waysApart();
        polynomials();
        wrongPolynomials();
        ownNumbers();
        walksBack();
        Check.end("MeasureTest");
    }

    private static WiredNets of(String text) {
        WiredNets x = new WiredNets();
        Check.lay(x, 0, text);
        return x;
    }

    private static void distances() {
        WiredNets x = of("knots 6 degree 3;row 0 1 2 3;row 0 2;row 4 5;");
        Check.due("along the shortest way", 2, () -> x.distance(0, 0, 3));
        Check.due("back", 2, () -> x.distance(0, 3, 0));
        Check.due("to itself", 0, () -> x.distance(0, 5, 5));
        Check.due("no way", WiredNets.NONE, () -> x.distance(0, 3, 4));
        Check.noSuch("no such knot", () -> x.distance(0, 0, 6));
        Check.noSuch("knot below 0", () -> x.distance(0, -1, 0));
        Check.noSuch("nothing there", () -> x.distance(1, 0, 0));
        Check.noSuch("no such slot", () -> x.distance(-1, 0, 0));
    }

    /** FAR, SUM, GIRTH, THIN, THIN of KNOTS, PRICE. */
    private static void far(String text, long... due) {
        WiredNets x = of(text);
        for (int what = 0; what < due.length; what++) {
            int at = what;
            Check.due("far " + at + " of " + text, due[at], () -> x.far(0, at));
        }
    }

    private static void measures() {
        far("knots 1 degree 1;", 0, 0, -1, -1, 0, 0);
        far("knots 2 degree 1;", -1, -1, -1, 0, 0, 1000000);
        far("knots 2 degree 1;row 0 1;", 1, 1, -1, 1, 1, 1001);
        far("knots 3 degree 2;row 0 1;", -1, -1, -1, 0, 0, 1000000);
        far("knots 4 degree 2;ring 0 1 2;", -1, -1, 3, 0, 0, 1000000);
        far("knots 3 degree 2;ring 0 1 2;", 1, 3, 3, 2, 2, 1003);
        far("knots 4 degree 3;star 2 0 1 3;", 2, 9, -1, 1, 1, 2009);
        far("knots 9 degree 8;all 0 1 2 3 4 5 6 7 8;", 1, 36, 3, 8, 8, 1036);
        far(PETERSEN, 2, 75, 5, 3, 3, 2075);
        far("knots 7 degree 2;ring 0 1 2 3;ring 4 5 6;", -1, -1, 3, 0, 0, 1000000);
        WiredNets x = new WiredNets();
        x.turned(0, 0, 24, 1, 1 << 1 | 1 << 23);
        long[] ring = {12, 1728, 24, 2, 2, 13728};
        x.turned(1, 1, 7, 2, 1 << 7 | 1 << 8 | 1 << 10);
        long[] heawood = {3, 189, 6, 3, 3, 3189};
        Check.lay(x, 2, "knots 24 degree 8;row 0 1 2 3 4 5 6 7 8 9 10 11;row 11 12 13 14 15 16 17 18 19 20 21 22;"
            + "row 22 23;");
        long[] row = {23, 2300, -1, 1, 1, 25300};
        for (int what = 0; what < 6; what++) {
            int at = what;
            Check.due("ring of 24, " + at, ring[at], () -> x.far(0, at));
            Check.due("fourteen knots, " + at, heawood[at], () -> x.far(1, at));
            Check.due("row of 24, " + at, row[at], () -> x.far(2, at));
        }
    }

    private static void thinness() {
        // Two triangles that share a knot: two lines must fall, but only one knot.
        far("knots 5 degree 4;ring 0 1 2;ring 0 3 4;", 2, 14, 3, 2, 1, 2014);
        far("knots 9 degree 8;all 0 1 2 3 4;all 4 5 6 7 8;", 2, 52, 3, 4, 1, 2052);
        far("knots 8 degree 4;all 0 1 2 3;all 4 5 6 7;row 0 4;", 3, 52, 3, 1, 1, 3052);
        far("knots 10 degree 5;all 0 1 2 3 4;all 5 6 7 8 9;row 3 5;row 4 6;", 3, 77, 3, 2, 2, 3077);
        far("knots 5 degree 3;star 0 1 2 3;star 4 1 2 3;", 2, 14, 4, 2, 2, 2014);
        // The knots that must fall are the first ones.
        far("knots 8 degree 6;star 0 2 3 4 5 6 7;star 1 2 3 4 5 6 7;all 2 3 4;all 5 6 7;", 2, 38, 3, 4, 2, 2038);
    }

    private static void wrongMeasures() {
        WiredNets x = of(PETERSEN);
        Check.noSuch("another what", () -> x.far(0, 6));
        Check.noSuch("what below 0", () -> x.far(0, -1));
        Check.noSuch("nothing there", () -> x.far(1, 0));
        Check.noSuch("no such slot", () -> x.far(8, 0));
        Check.due("its lines have stayed", 15, () -> x.about(0, 2));
    }

    private static void waysApart() {
        WiredNets x = of("knots 10 degree 5;all 0 1 2 3 4;all 5 6 7 8 9;row 3 5;row 4 6;");
        Check.due("within", 4, () -> x.apart(0, 0, 1));
        Check.due("within, the other lines help", 5, () -> x.apart(0, 3, 4));
        Check.due("between", 2, () -> x.apart(0, 0, 9));
        Check.due("to itself", 0, () -> x.apart(0, 7, 7));
        Check.noSuch("no such knot", () -> x.apart(0, 0, 10));
        Check.noSuch("knot below 0", () -> x.apart(0, -1, -1));
        Check.noSuch("nothing there", () -> x.apart(1, 0, 0));
        // The first way found takes the midst: it must be sent back.
        WiredNets y = of("knots 6 degree 3;row 0 1 4 5;row 0 2 3 5;row 1 3;");
        Check.due("two ways", 2, () -> y.apart(0, 0, 5));
        y.off(0, 0, 2);
        Check.due("one way", 1, () -> y.apart(0, 0, 5));
        y.off(0, 0, 1);
        Check.due("no way", 0, () -> y.apart(0, 0, 5));
    }

    private static void poly(String text, long... due) {
        WiredNets x = of(text);
        for (int k = 0; k < due.length; k++) {
            int at = k;
            Check.due("poly " + at + " of " + text, due[at], () -> x.poly(0, at));
        }
        Check.noSuch("behind the highest", () -> x.poly(0, due.length));
        Check.noSuch("below 0", () -> x.poly(0, -1));
    }

    private static void polynomials() {
        poly("knots 1 degree 1;", 0, 1);
        poly("knots 2 degree 1;row 0 1;", -1, 0, 1);
        poly("knots 3 degree 2;row 1 0 2;", 0, -2, 0, 1);
        poly("knots 4 degree 3;all 0 1 2 3;", -3, -8, -6, 0, 1);
        poly(PETERSEN, 48, -160, 120, 120, -165, -24, 75, 0, -15, 0, 1);
        poly("knots 12 degree 1;", 0, 0, 0, 0, 0, 0, 0, 0, 0, 0, 0, 0, 1);
        // (x - 8) (x + 1)^8 x^3
        poly("knots 12 degree 8;all 11 10 9 8 7 6 5 4 3;", 0, 0, 0, -8, -63, -216, -420, -504, -378, -168, -36, 0, 1);
        // Six knots each joined with all six others but one: (x - 5) (x - 1)^5 (x + 1)^5 (x + 5)
        StringBuilder crown = new StringBuilder("knots 12 degree 5;");
        for (int a = 0; a < 6; a++) {
            crown.append("star ").append(a);
            for (int b = 0; b < 6; b++) {
                crown.append(a == b ? "" : " " + (6 + b));
            }
            crown.append(';');
        }
        poly(crown.toString(), 25, 0, -126, 0, 255, 0, -260, 0, 135, 0, -30, 0, 1);
    }

    private static void wrongPolynomials() {
        WiredNets x = of("knots 13 degree 2;row 0 1;");
        Check.illegal("more than 12 knots", () -> x.poly(0, 0));
        Check.illegal("more than 12 knots, k is n", () -> x.poly(0, 13));
        Check.noSuch("k behind n, ahead", () -> x.poly(0, 14));
        Check.noSuch("k below 0, ahead", () -> x.poly(0, -1));
        Check.noSuch("nothing there", () -> x.poly(1, 0));
    }

    private static void ownNumbers() {
        WiredNets x = of("knots 12 degree 8;all 11 10 9 8 7 6 5 4 3;");
        long[] due = {12, 12, 4, 1, 1, 1, 1, 1, 1, 1, 1, 0, 0};
        for (int i = 0; i < due.length; i++) {
            int at = i;
            Check.due("above " + (at - 3), due[at], () -> x.above(0, at - 3));
        }
        Check.due("above -12", 12, () -> x.above(0, -12));
        Check.due("above 12", 0, () -> x.above(0, 12));
        Check.illegal("x below -12", () -> x.above(0, -13));
        Check.illegal("x over 12", () -> x.above(0, 13));
        WiredNets y = of(PETERSEN);
        Check.due("above 1: not 1 itself", 1, () -> y.above(0, 1));
        Check.due("above 0: 3 and five times 1", 6, () -> y.above(0, 0));
        Check.due("above -2: not -2 itself", 6, () -> y.above(0, -2));
        WiredNets row = of("knots 12 degree 2;row 0 1 2 3 4 5 6 7 8 9 10 11;");
        Check.due("half are over 0", 6, () -> row.above(0, 0));
        Check.due("less than 2", 0, () -> row.above(0, 2));
        Check.due("over 1", 4, () -> row.above(0, 1));
        Check.due("over -1", 8, () -> row.above(0, -1));
        row.net(0, 13, 2);
        Check.illegal("more than 12 knots", () -> row.above(0, 0));
        Check.noSuch("nothing there", () -> row.above(1, 0));
        Check.noSuch("no such slot, ahead", () -> row.above(8, 99));
    }

    private static void walksBack() {
        WiredNets x = of("knots 3 degree 2;ring 0 1 2;");
        long[] due = {3, 0, 6, 6, 18, 30, 66, 126, 258, 510, 1026};
        for (int k = 0; k < due.length; k++) {
            int at = k;
            Check.due("walks " + at, due[at], () -> x.walks(0, at));
        }
        Check.illegal("k below 0", () -> x.walks(0, -1));
        Check.illegal("k over 10", () -> x.walks(0, 11));
        Check.noSuch("nothing there, ahead", () -> x.walks(1, 11));
        x.turned(1, 0, 24, 1, 1 << 1 | 1 << 23);
        Check.due("ring of 24", 6048, () -> x.walks(1, 10));
        Check.due("no walks of 9 steps", 0, () -> x.walks(1, 9));
        // Twice all of twelve less a matching would be more lines than may be: all of nine, twice.
        Check.lay(x, 2, "knots 18 degree 8;all 0 1 2 3 4 5 6 7 8;all 9 10 11 12 13 14 15 16 17;");
        Check.due("2 (8^10 + 8)", 2147483664L, () -> x.walks(2, 10));
    }
}
