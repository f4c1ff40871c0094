/** Promises 31 to 36: the edges of tables, locks, loads, patterns, ways up and down, and of news. */
public final class WaysEdgesTest {
    private static final int NONE = WiredNets.NONE;

    private WaysEdgesTest() {
    }

    public static void main(String[] args) {
        hopsOfRows();
        hopsToTheLeast();
        notJoined();
        locksByFormula();
        manyLinesWithoutLock();
        loadsOfRows();
        heavyRows();
        heavyStarsAndAll();
        heavyOfOneKnot();
        heavyOfLikeOnes();
        patterns();
        upwardByFormula();
        upwardOfLikeOnes();
        upThenDown();
        tellByFormula();
        tellOfTenAndEleven();
        everythingOfChosenNets();
        Check.end("WaysEdgesTest");
    }

    private static WiredNets of(String text) {
        WiredNets x = new WiredNets();
        Check.lay(x, 0, text);
        return x;
    }

    /** "NONE: both are one". */
    private static void hopsOfRows() {
        for (int n = 1; n <= 20; n++) {
            WiredNets x = Shapes.row(n);
            for (int a = 0; a < n; a++) {
                for (int b = 0; b < n; b++) {
                    int from = a;
                    int to = b;
                    int due = a == b ? NONE : a < b ? a + 1 : a - 1;
                    Check.due("hop " + a + " " + b + " in a row of " + n, due, () -> x.hop(0, from, to));
                }
            }
        }
    }

    /** "to the least KNOT that is joined with a and nearer to b". */
    private static void hopsToTheLeast() {
        WiredNets x = of("knots 6 degree 4;star 0 1 2 3 4;star 5 1 2 3 4;");
        Check.due("the least of four", 1, () -> x.hop(0, 0, 5));
        Check.due("the least of four, back", 1, () -> x.hop(0, 5, 0));
        Check.due("the least of two ends", 0, () -> x.hop(0, 3, 2));
        x.off(0, 0, 1);
        Check.due("the least of three", 2, () -> x.hop(0, 0, 5));
        Check.due("back, too", 2, () -> x.hop(0, 5, 0));
        Check.due("the only one", 5, () -> x.hop(0, 1, 2));
        Check.due("beside it, not the least", 4, () -> x.hop(0, 5, 4));
        // The least KNOT joined with a is no nearer.
        WiredNets y = of("knots 5 degree 3;row 0 2 3 4;row 1 2;");
        Check.due("0 is joined with 2, but no nearer to 4", 3, () -> y.hop(0, 2, 4));
        for (int n = 2; n <= 9; n++) {
            WiredNets all = Shapes.all(n);
            int last = n - 1;
            Check.due("all of " + n, last, () -> all.hop(0, 0, last));
        }
    }

    /** "or not JOINED": also between two KNOTS that have a way; each call says so in its own way. */
    private static void notJoined() {
        String[] texts = {"knots 2 degree 1;", "knots 3 degree 2;row 0 1;", "knots 3 degree 2;row 1 2;",
            "knots 24 degree 2;ring 0 1 2 3 4 5;", "knots 10 degree 2;ring 0 1 2 3 4;ring 5 6 7 8 9;"};
        for (String text : texts) {
            WiredNets x = of(text);
            int last = x.about(0, 0) - 1;
            Check.due("hop of " + text, NONE, () -> x.hop(0, 0, 1));
            Check.due("hop of the last of " + text, NONE, () -> x.hop(0, last, last - 1));
            Check.due("locks of " + text, 0, () -> Check.bit(x.locks(0)));
            Check.due("load of " + text, 0, () -> x.load(0, 0, 1));
            Check.due("load of the last of " + text, 0, () -> x.load(0, last, last - 1));
            for (int what = 0; what < 3; what++) {
                int at = what;
                Check.due("heavy " + at + " of " + text, NONE, () -> x.heavy(0, at));
                Check.due("upward of " + text, NONE, () -> x.upward(0, 0, at % 2));
                Check.due("upward by the last of " + text, NONE, () -> x.upward(0, last, at % 2));
            }
            Check.due("tell of " + text, NONE, () -> x.tell(0, 0));
            Check.due("tell by the last of " + text, NONE, () -> x.tell(0, last));
        }
    }

    /** Rows, stars and all joined never lock; rings do from five KNOTS on, where ways of two LINES are the only ones. */
    private static void locksByFormula() {
        for (int n = 1; n <= 24; n++) {
            locks(false, "a row of " + n, Shapes.row(n));
            if (n >= 3) {
                locks(n >= 5, "a ring of " + n, Shapes.ring(n));
            }
            if (n <= 9) {
                locks(false, "a star of " + n, Shapes.star(n));
                locks(false, "all of " + n, Shapes.all(n));
            }
        }
        locks(true, "a ring with a tail", of("knots 8 degree 3;row 0 1 2 3;ring 3 4 5 6 7;"));
        locks(false, "a ring of four with a tail", of("knots 7 degree 3;row 0 1 2 3;ring 3 4 5 6;"));
    }

    /** Many LINES that don't lock: three of all of eight KNOTS, a LINE between each two that follow. */
    private static void manyLinesWithoutLock() {
        WiredNets x = new WiredNets();
        x.net(0, 24, 8);
        for (int a = 0; a < 24; a++) {
            for (int b = a + 1; b < 24; b++) {
                if (a / 8 == b / 8 || a == 7 && b == 8 || a == 15 && b == 16) {
                    Check.hold("line", x.line(0, a, b));
                }
            }
        }
        Check.due("lines", 86, () -> x.about(0, 2));
        locks(false, "three of all of eight", x);
        Check.due("the greatest load", 128, () -> x.heavy(0, 0));
        Check.due("from 7 to 8", 32 * 7 + 8, () -> x.heavy(0, 1));
        Check.due("the pattern, nine against nine from 8 to 15", 9, () -> x.heavy(0, 2));
        x.off(0, 0, 1);
        x.off(0, 22, 23);
        x.line(0, 0, 23);
        locks(true, "a ring of three of them", x);
    }

    private static void locks(boolean due, String of, WiredNets x) {
        Check.due("locks of " + of, Check.bit(due), () -> Check.bit(x.locks(0)));
    }

    /** "how many WAYS (of all pairs, both ways) go along it"; "0: no LINE". */
    private static void loadsOfRows() {
        for (int n = 1; n <= 15; n++) {
            WiredNets x = Shapes.row(n);
            for (int a = 0; a < n; a++) {
                for (int b = 0; b < n; b++) {
                    int from = a;
                    int to = b;
                    int low = Math.min(a, b);
                    int due = Math.abs(a - b) == 1 ? (low + 1) * (n - 1 - low) : 0;
                    Check.due("load " + a + " " + b + " in a row of " + n, due, () -> x.load(0, from, to));
                }
            }
        }
        // Of a ring of four the ways across go by the least: 0 1 2, 2 1 0, 1 0 3, 3 0 1.
        WiredNets ring = Shapes.ring(4);
        int[][] due = {{0, 1, 3}, {1, 0, 3}, {1, 2, 2}, {2, 1, 2}, {2, 3, 1}, {3, 2, 1}, {3, 0, 2}, {0, 3, 2}, {0, 2, 0}, {1, 1, 0}};
        for (int[] d : due) {
            Check.due("load " + d[0] + " " + d[1] + " in a ring of 4", d[2], () -> ring.load(0, d[0], d[1]));
        }
    }

    private static void heavy(String of, WiredNets x, int most, int first, int pattern) {
        int[] due = {most, first, pattern};
        for (int what = 0; what < 3; what++) {
            int at = what;
            Check.due("heavy " + at + " of " + of, due[at], () -> x.heavy(0, at));
        }
        Check.noSuch("heavy 3 of " + of, () -> x.heavy(0, 3));
        Check.noSuch("heavy -1 of " + of, () -> x.heavy(0, -1));
    }

    private static void heavyRows() {
        for (int n = 2; n <= 24; n++) {
            int half = n / 2;
            heavy("a row of " + n, Shapes.row(n), half * (n - half), 32 * (half - 1) + half, half);
        }
    }

    private static void heavyStarsAndAll() {
        for (int n = 2; n <= 9; n++) {
            heavy("a star of " + n, Shapes.star(n), n - 1, n - 1, 1);
            heavy("all of " + n, Shapes.all(n), 1, 1, 1);
        }
    }

    /** "NONE without LINES": one KNOT alone is JOINED, and nothing goes anywhere. */
    private static void heavyOfOneKnot() {
        for (int degree = 1; degree <= 8; degree++) {
            WiredNets x = new WiredNets();
            x.net(0, 1, degree);
            heavy("one knot", x, 0, NONE, 0);
        }
        heavy("one knot, read", of("knots 1 degree 3;"), 0, NONE, 0);
    }

    /** "the first LINE in a direction that has it (1: 32 from and to; by from, then to". */
    private static void heavyOfLikeOnes() {
        // All of 0 1 2 and all of 3 4 5 joined by 2-3: both directions have the same load, from 2 is the first.
        heavy("two of all", of("knots 6 degree 3;all 0 1 2;all 3 4 5;row 2 3;"), 9, 32 * 2 + 3, 3);
        heavy("two of all, told the other way", of("knots 6 degree 3;all 5 4 2;all 3 1 0;row 3 2;"), 9, 32 * 2 + 3, 3);
        // From 1 to 0 and from 1 to 2 are alike in a row of three; from 0 to 1 comes first.
        heavy("a row of three", of("knots 3 degree 2;row 0 1 2;"), 2, 1, 1);
        heavy("a row of three, 0 in its midst", of("knots 3 degree 2;row 1 0 2;"), 2, 1, 1);
        heavy("a row of three, 2 in its midst", of("knots 3 degree 2;row 1 2 0;"), 2, 2, 1);
    }

    /** "if each KNOT sends to one other at most, and gets from one at most". */
    private static void patterns() {
        heavy("a pair", of("knots 2 degree 1;row 0 1;"), 1, 1, 1);
        heavy("one against many", of("knots 6 degree 5;star 1 0 2 3 4 5;"), 5, 1, 1);
        heavy("two against three", of("knots 5 degree 3;row 0 1 2;row 2 3;row 2 4;"), 6, 32 + 2, 2);
        heavy("three against three", of("knots 6 degree 4;star 1 0 2 4;star 4 3 5;"), 9, 32 + 4, 3);
        heavy("twelve against twelve", Shapes.row(24), 144, 32 * 11 + 12, 12);
    }

    private static void upward(String of, WiredNets x, int root, int greatest, int together) {
        Check.due("upward 0 by " + root + " of " + of, greatest, () -> x.upward(0, root, 0));
        Check.due("upward 1 by " + root + " of " + of, together, () -> x.upward(0, root, 1));
    }

    /** Where there is one way alone, or one LINE, that goes up and then down, whatever the ROOT. */
    private static void upwardByFormula() {
        for (int n = 1; n <= 24; n++) {
            WiredNets row = Shapes.row(n);
            for (int root = 0; root < n; root++) {
                upward("a row of " + n, row, root, n - 1, n * (n * n - 1) / 3);
            }
            int last = n;
            Check.noSuch("no such root", () -> row.upward(0, last, 0));
            Check.noSuch("no such root, what 1", () -> row.upward(0, -1, 1));
            if (n >= 3 && n <= 9) {
                WiredNets star = Shapes.star(n);
                WiredNets all = Shapes.all(n);
                for (int root = 0; root < n; root++) {
                    upward("a star of " + n, star, root, 2, 2 * (n - 1) * (n - 1));
                    upward("all of " + n, all, root, 1, n * (n - 1));
                }
            }
        }
    }

    /** "of like ones the lesser one" is up. */
    private static void upwardOfLikeOnes() {
        upward("a ring of three", Shapes.ring(3), 1, 1, 6);
        upward("a ring of five", Shapes.ring(5), 0, 3, 32);
        // By 0 the knots 2 and 3 are as near: 3 goes up to 2. A knot behind 3 goes up 5 3 2 1, one behind 2 not 5 2 3 4.
        upward("a ring of five with a tail", of("knots 6 degree 3;ring 0 1 2 3 4;row 3 5;"), 0, 3, 54);
        upward("a ring of five with the other tail", of("knots 6 degree 3;ring 0 1 2 3 4;row 2 5;"), 0, 4, 56);
    }

    /** A way that would go down and up again is none. */
    private static void upThenDown() {
        upward("a ring of four", Shapes.ring(4), 0, 2, 16);
        upward("a ring of six", Shapes.ring(6), 0, 4, 58);
        upward("two ends over two knots", of("knots 4 degree 2;row 0 2;row 0 3;row 1 2;row 1 3;"), 0, 2, 16);
        // By 0: 1 and 2 are up of 3 and 4. From 3 to 4 over 1, from 1 to 2 over 0 alone.
        upward("four over two", of("knots 5 degree 4;star 0 1 2;star 3 1 2;star 4 1 2;"), 0, 2, 28);
        for (int n = 3; n <= 20; n++) {
            Twin ring = Twin.like("a ring of " + n, Shapes.ring(n));
            for (int root = 0; root < n; root += 3) {
                upwardAs(ring, root);
            }
        }
    }

    private static void upwardAs(Twin twin, int root) {
        for (int what = 0; what < 2; what++) {
            int of = what;
            twin.same("upward " + root + " " + of, twin.plain.upward(0, root, of), () -> twin.wired.upward(0, root, of));
        }
    }

    private static void tell(String of, WiredNets x, int knot, long due) {
        Check.due("tell by " + knot + " of " + of, due, () -> x.tell(0, knot));
    }

    private static void tellByFormula() {
        tell("one knot", Shapes.none(1), 0, 0);
        for (int n = 2; n <= 10; n++) {
            for (int knot = 0; knot < n; knot++) {
                int less = Math.min(knot, n - 1 - knot);
                int more = n - 1 - less;
                tell("a row of " + n, Shapes.row(n), knot, less == 0 ? more : Math.max(more, less + 1));
                tell("none of " + n, Shapes.none(n), knot, NONE);
                if (n >= 3) {
                    tell("a ring of " + n, Shapes.ring(n), knot, (n + 1) / 2);
                }
                if (n <= 9) {
                    tell("a star of " + n, Shapes.star(n), knot, n - 1);
                    tell("all of " + n, Shapes.all(n), knot, 32 - Integer.numberOfLeadingZeros(n - 1));
                }
            }
            int last = n;
            WiredNets x = Shapes.row(n);
            Check.noSuch("no such knot", () -> x.tell(0, last));
            Check.noSuch("no such knot", () -> x.tell(0, -1));
        }
    }

    /** "(10 at most)"; "NONE: more than 10 KNOTS". */
    private static void tellOfTenAndEleven() {
        for (int n = 11; n <= 24; n++) {
            tell("a row of " + n, Shapes.row(n), 0, NONE);
            tell("a ring of " + n, Shapes.ring(n), n - 1, NONE);
            tell("none of " + n, Shapes.none(n), n - 1, NONE);
            int last = n;
            WiredNets x = Shapes.row(n);
            Check.noSuch("no such knot of " + n, () -> x.tell(0, last));
            Check.noSuch("no such knot of " + n, () -> x.tell(0, -1));
        }
        WiredNets ten = new WiredNets();
        ten.turned(0, 0, 10, 1, 0b1111011110);
        for (int knot = 0; knot < 10; knot++) {
            tell("ten knots, all but one line each", ten, knot, 4);
        }
        tell("ten knots, a star and a tail", of("knots 10 degree 8;star 0 1 2 3 4 5 6 7 8;row 1 9;"), 0, 8);
        tell("ten knots, a star and a tail", of("knots 10 degree 8;star 0 1 2 3 4 5 6 7 8;row 1 9;"), 9, 9);
    }

    /** All of it against the plain reading, of nets up to 24 KNOTS. */
    private static void everythingOfChosenNets() {
        for (int n = 6; n <= 24; n += 3) {
            for (int seed = 0; seed < 3; seed++) {
                Twin twin = Twin.chosen(n, 3 + seed, n + seed * n / 2, 17 * n + seed);
                for (int what = 0; what < 3; what++) {
                    int of = what;
                    twin.same("heavy " + of, twin.plain.heavy(0, of), () -> twin.wired.heavy(0, of));
                }
                twin.same("locks", Check.bit(twin.plain.locks(0)), () -> Check.bit(twin.wired.locks(0)));
                for (int a = 0; a < n; a += 4) {
                    upwardAs(twin, a);
                    int from = a;
                    for (int b = 0; b < n; b++) {
                        int to = b;
                        twin.same("hop " + a + " " + b, twin.plain.hop(0, from, to), () -> twin.wired.hop(0, from, to));
                    }
                }
                twin.same("load", twin.plain.load(0, 0, 1), () -> twin.wired.load(0, 0, 1));
                int last = n - 1;
                twin.same("load", twin.plain.load(0, last, last - 1), () -> twin.wired.load(0, last, last - 1));
            }
        }
        for (int seed = 0; seed < 6; seed++) {
            Twin twin = Twin.chosen(6 + seed / 2, 3, 6 + seed, seed);
            for (int knot = 0; knot < 6; knot++) {
                int by = knot;
                twin.same("tell " + by, twin.plain.tell(0, by), () -> twin.wired.tell(0, by));
            }
        }
    }
}
