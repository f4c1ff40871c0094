import java.util.Map;

/** Promises 1 to 4, 8 to 12 and 39: the edges of slots, lines, groups, glued nets and copies. */
public final class BuildEdgesTest {
    private BuildEdgesTest() {
    }

    public static void main(String[] args) {
        newObjectHoldsNothing();
        objectsAreTheirOwn();
        everySlot();
        everySize();
        netOverAnother();
        degreeBars();
        degreeOfEach();
        lineNumbers();
        linesWithoutAny();
        groupsOf24();
        groupsOfOneAndTwo();
        sumsPlaceByPlace();
        turnsAfterOneAnother();
        movesWithTheirOpposites();
        howManyMoves();
        gluedBothWays();
        gluedIntoItself();
        gluedSizes();
        gluedWithoutLines();
        copiesAreTheirOwn();
        aboutAtTheEdges();
        counts();
        all512Calls();
        Check.end("BuildEdgesTest");
    }

    /** "SLOTS hold nothing." Nothing else is there either. */
    private static void newObjectHoldsNothing() {
        WiredNets x = new WiredNets();
        Map<String, String> seen = Seen.of(x);
        for (int slot = 0; slot < 8; slot++) {
            Check.text("slot " + slot, "nothing", seen.get("slot " + slot));
        }
        Check.text("nets", "0", seen.get("nets"));
        Check.text("tape", "0", seen.get("tape"));
        Check.text("fault", "-1", seen.get("fault"));
        for (String kept : new String[] {"found", "fallen", "laid"}) {
            Check.text(kept + ", none yet", "end", seen.get(kept));
        }
        for (int what = -1; what <= 4; what++) {
            int of = what;
            Check.noSuch("found " + of + ", none yet", () -> x.found(of));
        }
        for (int i : new int[] {-1, 0, 1, 2, 23, 24}) {
            Check.noSuch("fallen " + i + ", none yet", () -> x.fallen(i));
            Check.noSuch("laid " + i + ", none yet", () -> x.laid(i));
        }
    }

    /** What one object holds is nothing to another one. */
    private static void objectsAreTheirOwn() {
        WiredNets one = new WiredNets();
        Map<String, String> before = Seen.of(one);
        WiredNets other = Scene.made();
        Check.text("one object, another one used", "", Seen.changes(before, Seen.of(one)));
        Map<String, String> made = Seen.of(other);
        one.net(0, 9, 3);
        one.small(2, 1, 1);
        one.falls(0, 1, 1);
        one.lay(0, 3);
        one.feed(0, 0, 0, 0, 0);
        one.read(0, 20);
        Check.text("the other one", "", Seen.changes(made, Seen.of(other)));
        Scene.tapeIsAsItWas("the other one", other);
    }

    /** "SLOTS 0 to 7": all of them, by each call that lays a net. */
    private static void everySlot() {
        for (int slot = 0; slot < 8; slot++) {
            WiredNets x = new WiredNets();
            int s = slot;
            int other = 7 - slot;
            Check.due("net in " + s, 1, () -> Check.bit(x.net(s, 2, 1)));
            Check.due("line in " + s, 1, () -> Check.bit(x.line(s, 0, 1)));
            Check.due("one slot", 1, () -> x.count(0));
            Check.due("copy to " + other, 1, () -> Check.bit(x.copy(s, other)));
            Check.text("copied to " + other, "2 1: 0-1", Seen.slot(x, other));
            Check.due("glued into " + s, 1, () -> Check.bit(x.glued(s, 0, other, other)));
            Check.text("glued into " + s, "4 2: 0-1 0-2 1-3 2-3", Seen.slot(x, s));
            Check.due("turned in " + s, 1, () -> Check.bit(x.turned(s, 0, 3, 1, 6)));
            Check.text("turned in " + s, "3 2: 0-1 0-2 1-2", Seen.slot(x, s));
            Check.lay(x, s, "knots 1 degree 1;");
            Check.text("read into " + s, "1 1:", Seen.slot(x, s));
            Check.due("two slots", 2, () -> x.count(0));
        }
    }

    /** "n 1 to 24", "DEGREE (1 to 8)": each n with each DEGREE, and none besides. */
    private static void everySize() {
        for (int n = -1; n <= 26; n++) {
            WiredNets x = new WiredNets();
            int knots = n;
            for (int degree = -1; degree <= 10; degree++) {
                int most = degree;
                boolean due = n >= 1 && n <= 24 && degree >= 1 && degree <= 8;
                Check.due("net of " + n + ", " + degree, Check.bit(due), () -> Check.bit(x.net(3, knots, most)));
                if (due) {
                    Check.text("net of " + n + ", " + degree, n + " " + degree + ":", Seen.slot(x, 3));
                }
            }
            Check.due("held " + n, n >= 1 && n <= 24 ? 1 : 0, () -> x.count(0));
        }
    }

    private static void netOverAnother() {
        WiredNets x = new WiredNets();
        x.turned(0, 0, 24, 1, 0b111100000000000000011110);
        Check.due("a smaller one", 1, () -> Check.bit(x.net(0, 2, 1)));
        Check.text("a smaller one", "2 1:", Seen.slot(x, 0));
        Check.due("the greatest one", 1, () -> Check.bit(x.net(0, 24, 8)));
        Check.text("without lines", "24 8:", Seen.slot(x, 0));
        Check.due("no way in it", WiredNets.NONE, () -> x.distance(0, 0, 1));
        x.line(0, 0, 23);
        Check.due("the same once more", 1, () -> Check.bit(x.net(0, 24, 8)));
        Check.text("without lines again", "24 8:", Seen.slot(x, 0));
    }

    /** "each KNOT has at most so many LINES": the last one that may be, and the next. */
    private static void degreeBars() {
        for (int degree = 1; degree <= 8; degree++) {
            WiredNets x = new WiredNets();
            int most = degree;
            x.net(0, 11, degree);
            for (int b = 1; b <= degree; b++) {
                int to = b;
                Check.due("line " + to + " of " + most, 1, () -> Check.bit(x.line(0, 0, to)));
            }
            Check.due("the most at a knot", most, () -> x.about(0, 4));
            Check.due("one more", 0, () -> Check.bit(x.line(0, 0, 10)));
            Check.due("one more, told from its end", 0, () -> Check.bit(x.line(0, 10, 0)));
            Check.due("still so many", most, () -> x.about(0, 2));
            Check.due("others are not barred", 1, () -> Check.bit(x.line(0, 9, 10)));
            Check.due("one goes", 1, () -> Check.bit(x.off(0, 1, 0)));
            Check.due("now there is room", 1, () -> Check.bit(x.line(0, 0, 1)));
            Check.due("and none again", 0, () -> Check.bit(x.line(0, 0, 9)));
        }
    }

    /** DEGREE bars if either KNOT has no room, or both. */
    private static void degreeOfEach() {
        WiredNets x = new WiredNets();
        x.net(0, 6, 2);
        x.line(0, 0, 1);
        x.line(0, 0, 2);
        x.line(0, 3, 1);
        x.line(0, 3, 4);
        Check.due("both are full", 0, () -> Check.bit(x.line(0, 0, 3)));
        Check.due("the first is full", 0, () -> Check.bit(x.line(0, 0, 5)));
        Check.due("the second is full", 0, () -> Check.bit(x.line(0, 5, 3)));
        Check.due("neither is full", 1, () -> Check.bit(x.line(0, 5, 2)));
        Check.text("lines", "6 2: 0-1 0-2 1-3 2-5 3-4", Seen.slot(x, 0));
    }

    /** "LINES are numbered from 0 on in the order of their lesser KNOT, then of the other one." */
    private static void lineNumbers() {
        WiredNets x = new WiredNets();
        x.net(0, 24, 3);
        x.line(0, 23, 22);
        x.line(0, 5, 4);
        x.line(0, 0, 23);
        x.line(0, 22, 0);
        x.line(0, 4, 23);
        x.line(0, 1, 0);
        long[] due = {1, 22, 23, 32 * 4 + 5, 32 * 4 + 23, 32 * 22 + 23};
        for (int i = 0; i < due.length; i++) {
            int at = i;
            Check.due("line " + at, due[at], () -> x.lineAt(0, at));
        }
        Check.noSuch("behind the last", () -> x.lineAt(0, due.length));
        x.off(0, 0, 22);
        Check.due("those behind it move up", 23, () -> x.lineAt(0, 1));
        Check.due("the last moves up", 32 * 22 + 23, () -> x.lineAt(0, 4));
        Check.noSuch("one less", () -> x.lineAt(0, 5));
        x.turned(1, 0, 24, 1, 0b111100000000000000011110);
        Check.due("the first of 96", 1, () -> x.lineAt(1, 0));
        Check.due("the eighth of 96", 23, () -> x.lineAt(1, 7));
        Check.due("the ninth of 96", 34, () -> x.lineAt(1, 8));
        Check.due("the last of 96", 32 * 22 + 23, () -> x.lineAt(1, 95));
        Check.noSuch("no 97th", () -> x.lineAt(1, 96));
    }

    private static void linesWithoutAny() {
        WiredNets x = new WiredNets();
        for (int n : new int[] {1, 2, 24}) {
            x.net(0, n, 8);
            Check.noSuch("no line of " + n, () -> x.lineAt(0, 0));
            Check.noSuch("no line below", () -> x.lineAt(0, -1));
            Check.due("off of none", 0, () -> Check.bit(x.off(0, 0, n - 1)));
        }
    }

    private static void turned(int group, int a, int b, int moves, String net) {
        WiredNets x = new WiredNets();
        String what = "turned " + group + " " + a + " " + b + " " + Integer.toBinaryString(moves);
        Check.due(what, 1, () -> Check.bit(x.turned(0, group, a, b, moves)));
        if (net != null) {
            Check.text(what, net, Seen.slot(x, 0));
        }
    }

    private static void unturned(int group, int a, int b, int moves) {
        WiredNets x = new WiredNets();
        String what = "turned " + group + " " + a + " " + b + " " + Integer.toBinaryString(moves);
        Check.due(what, 0, () -> Check.bit(x.turned(0, group, a, b, moves)));
        Check.due(what + ": nothing lies there", 0, () -> x.count(0));
    }

    /** "a, b from 1 on, a b at most 24": every a and b about there, and TURNS of which "b is 2". */
    private static void groupsOf24() {
        for (int a = -1; a <= 26; a++) {
            for (int b = -1; b <= 26; b++) {
                boolean due = a >= 1 && b >= 1 && a * b <= 24;
                if (due) {
                    turned(0, a, b, 0, a * b + " 1:");
                } else {
                    unturned(0, a, b, 0);
                }
                if (due && b == 2) {
                    turned(1, a, b, 0, 2 * a + " 1:");
                } else {
                    unturned(1, a, b, 0);
                }
            }
        }
        turned(0, 24, 1, 1 << 1 | 1 << 23, null);
        turned(0, 1, 24, 1 << 1 | 1 << 23, null);
        turned(0, 24, 1, 1 << 12, "24 1: 0-12 1-13 2-14 3-15 4-16 5-17 6-18 7-19 8-20 9-21 10-22 11-23");
        turned(1, 12, 2, 1 << 12, "24 1: 0-12 1-13 2-14 3-15 4-16 5-17 6-18 7-19 8-20 9-21 10-22 11-23");
        turned(1, 12, 2, 1 << 23, "24 1: 0-23 1-12 2-13 3-14 4-15 5-16 6-17 7-18 8-19 9-20 10-21 11-22");
        unturned(0, 24, 1, 1 << 24);
        unturned(0, 24, 1, 1 << 24 | 1 << 12);
        unturned(1, 12, 2, 1 << 24);
    }

    private static void groupsOfOneAndTwo() {
        turned(0, 1, 1, 0, "1 1:");
        unturned(0, 1, 1, 1);
        unturned(0, 1, 1, 2);
        turned(0, 2, 1, 2, "2 1: 0-1");
        turned(0, 1, 2, 2, "2 1: 0-1");
        turned(1, 1, 2, 2, "2 1: 0-1");
        unturned(0, 2, 1, 1);
        unturned(0, 2, 1, 3);
        unturned(0, 2, 1, 4);
        unturned(1, 1, 1, 0);
    }

    /** "SUMS of a and b: things i + a j .. put together place by place, MOD a, MOD b". */
    private static void sumsPlaceByPlace() {
        turned(0, 2, 3, 1 << 1, "6 1: 0-1 2-3 4-5");
        turned(0, 2, 3, 1 << 2 | 1 << 4, "6 2: 0-2 0-4 1-3 1-5 2-4 3-5");
        turned(0, 2, 3, 1 << 3 | 1 << 5, "6 2: 0-3 0-5 1-2 1-4 2-5 3-4");
        turned(0, 3, 2, 1 << 3, "6 1: 0-3 1-4 2-5");
        turned(0, 3, 2, 1 << 1 | 1 << 2, "6 2: 0-1 0-2 1-2 3-4 3-5 4-5");
        turned(0, 3, 2, 1 << 4 | 1 << 5, "6 2: 0-4 0-5 1-3 1-5 2-3 2-4");
        turned(0, 2, 2, 1 << 3, "4 1: 0-3 1-2");
        turned(0, 4, 1, 1 << 2, "4 1: 0-2 1-3");
        turned(0, 1, 4, 1 << 2, "4 1: 0-2 1-3");
    }

    /** "i, f and then j, g is (i + j, or i - j if f is 1, MOD a), and f and g unlike"; "x and then s". */
    private static void turnsAfterOneAnother() {
        turned(1, 3, 2, 1 << 3, "6 1: 0-3 1-4 2-5");
        turned(1, 3, 2, 1 << 4, "6 1: 0-4 1-5 2-3");
        turned(1, 3, 2, 1 << 5, "6 1: 0-5 1-3 2-4");
        turned(1, 3, 2, 1 << 1 | 1 << 2, "6 2: 0-1 0-2 1-2 3-4 3-5 4-5");
        turned(1, 4, 2, 1 << 2 | 1 << 5, "8 2: 0-2 0-5 1-3 1-6 2-7 3-4 4-6 5-7");
        turned(1, 2, 2, 1 << 1 | 1 << 2 | 1 << 3, "4 3: 0-1 0-2 0-3 1-2 1-3 2-3");
    }

    /** "with each its opposite (behind which thing 0 comes)": every set of things of some groups. */
    private static void movesWithTheirOpposites() {
        int[][] groups = {{0, 5, 1}, {0, 1, 5}, {0, 6, 1}, {0, 2, 3}, {0, 3, 2}, {0, 2, 2}, {1, 1, 2}, {1, 2, 2}, {1, 3, 2},
            {0, 7, 1}};
        for (int[] g : groups) {
            int things = g[1] * g[2];
            for (int moves = 0; moves < 2 << things; moves++) {
                PlainNets plain = new PlainNets();
                if (plain.turned(0, g[0], g[1], g[2], moves)) {
                    StringBuilder net = new StringBuilder(things + " " + Math.max(1, Integer.bitCount(moves)) + ":");
                    for (int i = 0; i < plain.about(0, 2); i++) {
                        net.append(' ').append(plain.lineAt(0, i) / 32).append('-').append(plain.lineAt(0, i) % 32);
                    }
                    turned(g[0], g[1], g[2], moves, net.toString());
                } else {
                    unturned(g[0], g[1], g[2], moves);
                }
            }
        }
        // Alone only what is its own opposite.
        for (int thing = 1; thing < 24; thing++) {
            if (thing == 12) {
                turned(0, 24, 1, 1 << thing, null);
                turned(0, 1, 24, 1 << thing, null);
            } else {
                unturned(0, 24, 1, 1 << thing);
                unturned(0, 1, 24, 1 << thing);
            }
            if (thing == 6 || thing >= 12) {
                turned(1, 12, 2, 1 << thing, null);
            } else {
                unturned(1, 12, 2, 1 << thing);
            }
        }
    }

    /** "MOVES: .. at most 8", "DEGREE: how many MOVES, at least 1". */
    private static void howManyMoves() {
        for (int many = 0; many <= 12; many++) {
            int turns = ((1 << many) - 1) << 12;
            WiredNets x = new WiredNets();
            int degree = Math.max(1, many);
            Check.due(many + " turns", many <= 8 ? 1 : 0, () -> Check.bit(x.turned(0, 1, 12, 2, turns)));
            if (many <= 8) {
                Check.due("DEGREE of " + many, degree, () -> x.about(0, 1));
                Check.due("LINES of " + many, 12 * many, () -> x.about(0, 2));
                Check.due("fewest at a knot", many, () -> x.about(0, 3));
                Check.due("most at a knot", many, () -> x.about(0, 4));
            } else {
                Check.due("nothing lies there", 0, () -> x.count(0));
            }
        }
        // Without MOVES DEGREE is 1: a line may be put, and one alone at each knot.
        WiredNets x = new WiredNets();
        x.turned(0, 0, 3, 1, 0);
        Check.due("a line", 1, () -> Check.bit(x.line(0, 0, 1)));
        Check.due("no second one", 0, () -> Check.bit(x.line(0, 0, 2)));
        x.turned(0, 0, 5, 1, 1 << 1 | 1 << 4);
        Check.due("all knots of a turned net are full", 0, () -> Check.bit(x.line(0, 0, 2)));
    }

    private static WiredNets rowAndPair() {
        WiredNets x = new WiredNets();
        Check.lay(x, 0, "knots 3 degree 2;row 0 1 2;");
        Check.lay(x, 1, "knots 2 degree 1;row 0 1;");
        return x;
    }

    private static void gluedAs(WiredNets x, int slot, int kind, int a, int b, String net) {
        String what = "glued " + kind + " of " + a + ", " + b;
        Check.due(what, 1, () -> Check.bit(x.glued(slot, kind, a, b)));
        Check.text(what, net, Seen.slot(x, slot));
    }

    /** "KNOTS p + (KNOTS of x) q"; PRODUCT, HUNG. */
    private static void gluedBothWays() {
        WiredNets x = rowAndPair();
        gluedAs(x, 2, 0, 0, 1, "6 3: 0-1 0-3 1-2 1-4 2-5 3-4 4-5");
        gluedAs(x, 2, 0, 1, 0, "6 3: 0-1 0-2 1-3 2-3 2-4 3-5 4-5");
        gluedAs(x, 2, 1, 0, 1, "6 3: 0-1 0-3 1-2 1-4 2-5");
        gluedAs(x, 2, 1, 1, 0, "6 3: 0-1 0-2 1-3 2-4 3-5");
        Check.text("x stays", "3 2: 0-1 1-2", Seen.slot(x, 0));
        Check.text("y stays", "2 1: 0-1", Seen.slot(x, 1));
        // Of y all copies have all lines; of x hung only the first one has.
        Check.lay(x, 3, "knots 3 degree 2;row 1 2;");
        gluedAs(x, 2, 1, 1, 3, "6 3: 0-1 2-4 3-5");
        gluedAs(x, 2, 0, 1, 3, "6 3: 0-1 2-3 2-4 3-5 4-5");
    }

    /** "lies in a SLOT (perhaps that of x or y)". */
    private static void gluedIntoItself() {
        gluedAs(rowAndPair(), 0, 0, 0, 1, "6 3: 0-1 0-3 1-2 1-4 2-5 3-4 4-5");
        gluedAs(rowAndPair(), 1, 0, 0, 1, "6 3: 0-1 0-3 1-2 1-4 2-5 3-4 4-5");
        gluedAs(rowAndPair(), 0, 1, 0, 1, "6 3: 0-1 0-3 1-2 1-4 2-5");
        gluedAs(rowAndPair(), 1, 1, 0, 1, "6 3: 0-1 0-3 1-2 1-4 2-5");
        gluedAs(rowAndPair(), 1, 0, 1, 1, "4 2: 0-1 0-2 1-3 2-3");
        gluedAs(rowAndPair(), 1, 1, 1, 1, "4 2: 0-1 0-2 1-3");
        WiredNets x = rowAndPair();
        gluedAs(x, 1, 0, 1, 1, "4 2: 0-1 0-2 1-3 2-3");
        Check.due("16 knots of it", 1, () -> Check.bit(x.glued(1, 0, 1, 1)));
        Check.due("16 knots", 16, () -> x.about(1, 0));
        Check.due("DEGREE", 4, () -> x.about(1, 1));
        Check.due("LINES", 32, () -> x.about(1, 2));
        Check.due("256 knots", 0, () -> Check.bit(x.glued(1, 0, 1, 1)));
        Check.due("16 knots still", 16, () -> x.about(1, 0));
    }

    /** "DEGREE: both together, which must be 8 at most, KNOTS 24." */
    private static void gluedSizes() {
        for (int n = 1; n <= 24; n++) {
            for (int m = 1; m <= 24; m++) {
                WiredNets x = new WiredNets();
                x.net(0, n, 1);
                x.net(1, m, 1);
                int kind = (n + m) % 2;
                boolean due = n * m <= 24;
                Check.due("glued of " + n + ", " + m, Check.bit(due), () -> Check.bit(x.glued(2, kind, 0, 1)));
                Check.text("glued of " + n + ", " + m, due ? n * m + " 2:" : "nothing", Seen.slot(x, 2));
            }
        }
        for (int d = 1; d <= 8; d++) {
            for (int e = 1; e <= 8; e++) {
                WiredNets x = new WiredNets();
                x.net(0, 4, d);
                x.net(1, 6, e);
                int kind = (d + e) % 2;
                boolean due = d + e <= 8;
                Check.due("DEGREES " + d + ", " + e, Check.bit(due), () -> Check.bit(x.glued(2, kind, 0, 1)));
                Check.text("DEGREES " + d + ", " + e, due ? "24 " + (d + e) + ":" : "nothing", Seen.slot(x, 2));
            }
        }
    }

    private static void gluedWithoutLines() {
        WiredNets x = rowAndPair();
        x.net(3, 1, 1);
        x.net(4, 2, 1);
        gluedAs(x, 2, 0, 3, 3, "1 2:");
        gluedAs(x, 2, 1, 3, 3, "1 2:");
        gluedAs(x, 2, 0, 0, 3, "3 3: 0-1 1-2");
        gluedAs(x, 2, 1, 0, 3, "3 3: 0-1 1-2");
        gluedAs(x, 2, 0, 3, 0, "3 3: 0-1 1-2");
        gluedAs(x, 2, 1, 3, 0, "3 3: 0-1 1-2");
        gluedAs(x, 2, 0, 0, 4, "6 3: 0-1 1-2 3-4 4-5");
        gluedAs(x, 2, 1, 0, 4, "6 3: 0-1 1-2");
        gluedAs(x, 2, 0, 4, 0, "6 3: 0-2 1-3 2-4 3-5");
        gluedAs(x, 2, 1, 4, 0, "6 3: 0-2 1-3 2-4 3-5");
        // 24 knots, the last ones joined.
        x.turned(5, 0, 12, 1, 1 << 1 | 1 << 11);
        Check.due("24 knots", 1, () -> Check.bit(x.glued(2, 0, 5, 1)));
        Check.due("lines", 36, () -> x.about(2, 2));
        Check.due("the last one", 32 * 22 + 23, () -> x.lineAt(2, 35));
        Check.due("by q", 1, () -> x.distance(2, 11, 23));
        Check.due("by p, hung", 1, () -> Check.bit(x.glued(2, 1, 5, 1)));
        Check.due("lines", 24, () -> x.about(2, 2));
        Check.due("over the first ones", 3, () -> x.distance(2, 22, 23));
    }

    /** "What lies in a SLOT lies in another one, too". */
    private static void copiesAreTheirOwn() {
        WiredNets x = rowAndPair();
        Check.due("copy over another", 1, () -> Check.bit(x.copy(0, 1)));
        Check.text("copied", "3 2: 0-1 1-2", Seen.slot(x, 1));
        x.off(1, 0, 1);
        Check.text("the first stays", "3 2: 0-1 1-2", Seen.slot(x, 0));
        x.line(0, 0, 2);
        Check.text("the copy stays", "3 2: 1-2", Seen.slot(x, 1));
        Check.due("copy onto itself", 1, () -> Check.bit(x.copy(0, 0)));
        Check.text("it stays", "3 2: 0-1 0-2 1-2", Seen.slot(x, 0));
        x.copy(0, 7);
        x.grow(7, 1);
        Check.text("grown elsewhere", "3 2: 0-1 0-2 1-2", Seen.slot(x, 0));
        x.net(0, 24, 8);
        Check.text("the grown one stays", "4 2: 0-2 0-3 1-2 1-3", Seen.slot(x, 7));
        x.turned(2, 0, 24, 1, 0b111100000000000000011110);
        Check.due("the greatest", 1, () -> Check.bit(x.copy(2, 3)));
        Check.text("all of it", Seen.slot(x, 2), Seen.slot(x, 3));
        Check.due("a smaller one over it", 1, () -> Check.bit(x.copy(1, 3)));
        Check.text("nothing of it is left", "3 2: 1-2", Seen.slot(x, 3));
    }

    /** "0 KNOTS, 1 DEGREE, 2 LINES, 3 the fewest LINES at a KNOT, 4 the most". */
    private static void aboutAtTheEdges() {
        WiredNets x = new WiredNets();
        x.net(0, 1, 8);
        about(x, 1, 8, 0, 0, 0);
        x.net(0, 24, 1);
        about(x, 24, 1, 0, 0, 0);
        x.line(0, 22, 23);
        about(x, 24, 1, 1, 0, 1);
        x.turned(0, 0, 24, 1, 0b111100000000000000011110);
        about(x, 24, 8, 96, 8, 8);
        x.off(0, 0, 23);
        about(x, 24, 8, 95, 7, 8);
        Check.lay(x, 0, "knots 5 degree 4;star 4 0 1 2 3;");
        about(x, 5, 4, 4, 1, 4);
        Check.lay(x, 0, "knots 5 degree 4;star 0 1 2 3;");
        about(x, 5, 4, 3, 0, 3);
    }

    private static void about(WiredNets x, long... due) {
        for (int what = 0; what < due.length; what++) {
            int of = what;
            Check.due("about " + of, due[of], () -> x.about(0, of));
        }
    }

    /** "0 how many SLOTS hold a NET, 1 bytes of the tape". */
    private static void counts() {
        WiredNets x = new WiredNets();
        for (int slot = 7; slot >= 0; slot--) {
            int s = slot;
            x.net(s, 1, 1);
            x.net(s, 2, 1);
            Check.due("slots held", 8 - s, () -> x.count(0));
        }
        x.net(8, 1, 1);
        Check.due("all of them", 8, () -> x.count(0));
        for (int many = 0; many < 20; many++) {
            int bytes = 20 * many;
            Check.due("bytes", bytes, () -> x.count(1));
            x.feed(0, 0, 0, 0, 0);
        }
        Check.due("400 bytes", 400, () -> x.count(1));
        Check.noSuch("what 2", () -> x.count(2));
        Check.noSuch("what -1", () -> x.count(-1));
    }

    /** "An object is used for at most 512 calls": the 512th is as good as the first. */
    private static void all512Calls() {
        WiredNets x = new WiredNets();
        x.net(0, 5, 2);
        for (int call = 2; call < 512; call += 2) {
            boolean on = call % 4 == 2;
            Check.due("call " + call, 1, () -> Check.bit(on ? x.line(0, 0, 4) : x.off(0, 4, 0)));
            Check.due("call " + (call + 1), on ? 1 : 0, () -> x.about(0, 2));
        }
        Check.due("call 512", WiredNets.NONE, () -> x.distance(0, 1, 4));
    }
}
