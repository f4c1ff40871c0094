import java.util.Map;

/**
 * Every call that throws, answers false or NONE, with what lay there before: all of it is still there. Also, calls that
 * only ask change nothing, and calls that change something change nothing else.
 */
public final class RefusedTest {
    private static final long NO = 0;
    private static final long NONE = WiredNets.NONE;
    private static final long GONE = Check.NO_SUCH;
    private static final long WRONG = Check.ILLEGAL;
    private static final int LOW = Integer.MIN_VALUE;
    private static final int HIGH = Integer.MAX_VALUE;
    private static final int[] NO_SLOTS = {-1, 8, LOW, HIGH, 31, 32, -8, 256};
    private static final int[] NO_NETS = {Scene.NOTHING, -1, 8, LOW, HIGH, 38, -2};

    /** A call of an object that is made anew for it. */
    private interface On {
        long answer(WiredNets x);
    }

    /** A call that takes one number more. */
    private interface With {
        long answer(WiredNets x, int number);
    }

    private RefusedTest() {
    }

    public static void main(String[] args) {
        noSuchSlotIsFalse();
        nothingInSlotThrows();
        noSuchKnotThrows();
        readRefused();
        linesRefused();
        netsRefused();
        turnedRefused();
        gluedRefused();
        anotherWhat();
        numbersOutOfBounds();
        changesRefused();
        searchesRefused();
        answersNone();
        noSuchElementComesAheadWhereToldSo();
        asking();
        changingOneThing();
        Check.end("RefusedTest");
    }

    /** Nothing may change but what the call is told to, which is named as in Seen ("": nothing at all). */
    private static void changes(String only, String what, long want, On call) {
        WiredNets x = Scene.made();
        Map<String, String> before = Seen.of(x);
        Check.due(what, want, () -> call.answer(x));
        Check.text(what + ": changes", only, Seen.changes(before, Seen.of(x)));
        if (!only.contains("tape")) {
            Scene.tapeIsAsItWas(what, x);
        }
    }

    private static void refused(String what, long want, On call) {
        changes("", what, want, call);
    }

    private static void refusedWith(String what, long want, int[] numbers, With call) {
        for (int number : numbers) {
            refused(what + " " + number, want, x -> call.answer(x, number));
        }
    }

    /** Promises 2, 8, 9, 10: "False: no such SLOT". */
    private static void noSuchSlotIsFalse() {
        refusedWith("net, slot", NO, NO_SLOTS, (x, s) -> Check.bit(x.net(s, 3, 2)));
        refusedWith("turned, slot", NO, NO_SLOTS, (x, s) -> Check.bit(x.turned(s, 0, 8, 1, 130)));
        refusedWith("glued, slot", NO, NO_SLOTS, (x, s) -> Check.bit(x.glued(s, 0, Scene.RING, Scene.ONE_LINE)));
        refusedWith("copy, slot", NO, NO_SLOTS, (x, s) -> Check.bit(x.copy(Scene.RING, s)));
    }

    /** Promise 3: "NoSuchElementException: nothing lies in that SLOT .. (as everywhere)". */
    private static void nothingInSlotThrows() {
        refusedWith("line, slot", GONE, NO_NETS, (x, s) -> Check.bit(x.line(s, 0, 1)));
        refusedWith("off, slot", GONE, NO_NETS, (x, s) -> Check.bit(x.off(s, 0, 1)));
        refusedWith("glued, x", GONE, NO_NETS, (x, s) -> Check.bit(x.glued(0, 0, s, Scene.ONE_LINE)));
        refusedWith("glued, y", GONE, NO_NETS, (x, s) -> Check.bit(x.glued(0, 0, Scene.ONE_LINE, s)));
        refusedWith("copy, from", GONE, NO_NETS, (x, s) -> Check.bit(x.copy(s, 0)));
        refusedWith("about, slot", GONE, NO_NETS, (x, s) -> x.about(s, 0));
        refusedWith("lineAt, slot", GONE, NO_NETS, (x, s) -> x.lineAt(s, 0));
        refusedWith("distance, slot", GONE, NO_NETS, (x, s) -> x.distance(s, 0, 0));
        for (int what = 0; what < 6; what++) {
            int of = what;
            refusedWith("far " + of + ", slot", GONE, NO_NETS, (x, s) -> x.far(s, of));
        }
        refusedWith("apart, slot", GONE, NO_NETS, (x, s) -> x.apart(s, 0, 0));
        refusedWith("poly, slot", GONE, NO_NETS, (x, s) -> x.poly(s, 0));
        refusedWith("above, slot", GONE, NO_NETS, (x, s) -> x.above(s, 0));
        refusedWith("walks, slot", GONE, NO_NETS, (x, s) -> x.walks(s, 0));
        refusedWith("change, slot", GONE, NO_NETS, (x, s) -> Check.bit(x.change(s, 0, 1, false)));
        refusedWith("better, slot", GONE, NO_NETS, (x, s) -> x.better(s));
        refusedWith("cool, slot", GONE, NO_NETS, (x, s) -> x.cool(s, 1, 1, 1));
        refusedWith("falls, slot", GONE, NO_NETS, (x, s) -> x.falls(s, 0, 0));
        refusedWith("halves, slot", GONE, NO_NETS, (x, s) -> x.halves(s));
        refusedWith("lay, slot", GONE, NO_NETS, (x, s) -> x.lay(s, 1));
        refusedWith("hop, slot", GONE, NO_NETS, (x, s) -> x.hop(s, 0, 0));
        refusedWith("locks, slot", GONE, NO_NETS, (x, s) -> Check.bit(x.locks(s)));
        refusedWith("load, slot", GONE, NO_NETS, (x, s) -> x.load(s, 0, 0));
        refusedWith("heavy, slot", GONE, NO_NETS, (x, s) -> x.heavy(s, 0));
        refusedWith("upward, slot", GONE, NO_NETS, (x, s) -> x.upward(s, 0, 0));
        refusedWith("tell, slot", GONE, NO_NETS, (x, s) -> x.tell(s, 0));
        refusedWith("grow, slot", GONE, NO_NETS, (x, s) -> x.grow(s, 1));
        refusedWith("missing, slot", GONE, NO_NETS, (x, s) -> x.missing(s));
    }

    /** Promise 3: ".. no such KNOT (as everywhere)": the first behind the last, and the last ahead of the first. */
    private static void noSuchKnotThrows() {
        noSuchKnot(Scene.RING, new int[] {-1, 5, LOW, HIGH, 32, -32});
        noSuchKnot(Scene.ONE_KNOT, new int[] {-1, 1, 32});
        noSuchKnot(Scene.SPLIT, new int[] {-1, 4});
        noSuchKnot(Scene.GREATEST, new int[] {-1, 24, 31, 32, 33});
    }

    private static void noSuchKnot(int slot, int[] knots) {
        String of = ", slot " + slot;
        refusedWith("line, a" + of, GONE, knots, (x, k) -> Check.bit(x.line(slot, k, 0)));
        refusedWith("line, b" + of, GONE, knots, (x, k) -> Check.bit(x.line(slot, 0, k)));
        refusedWith("line, both" + of, GONE, knots, (x, k) -> Check.bit(x.line(slot, k, k)));
        refusedWith("off, a" + of, GONE, knots, (x, k) -> Check.bit(x.off(slot, k, 0)));
        refusedWith("off, b" + of, GONE, knots, (x, k) -> Check.bit(x.off(slot, 0, k)));
        refusedWith("off, both" + of, GONE, knots, (x, k) -> Check.bit(x.off(slot, k, k)));
        refusedWith("distance, a" + of, GONE, knots, (x, k) -> x.distance(slot, k, 0));
        refusedWith("distance, b" + of, GONE, knots, (x, k) -> x.distance(slot, 0, k));
        refusedWith("distance, both" + of, GONE, knots, (x, k) -> x.distance(slot, k, k));
        refusedWith("apart, a" + of, GONE, knots, (x, k) -> x.apart(slot, k, 0));
        refusedWith("apart, b" + of, GONE, knots, (x, k) -> x.apart(slot, 0, k));
        refusedWith("apart, both" + of, GONE, knots, (x, k) -> x.apart(slot, k, k));
        refusedWith("hop, a" + of, GONE, knots, (x, k) -> x.hop(slot, k, 0));
        refusedWith("hop, b" + of, GONE, knots, (x, k) -> x.hop(slot, 0, k));
        refusedWith("hop, both" + of, GONE, knots, (x, k) -> x.hop(slot, k, k));
        refusedWith("load, a" + of, GONE, knots, (x, k) -> x.load(slot, k, 0));
        refusedWith("load, b" + of, GONE, knots, (x, k) -> x.load(slot, 0, k));
        refusedWith("load, both" + of, GONE, knots, (x, k) -> x.load(slot, k, k));
        refusedWith("upward, root" + of, GONE, knots, (x, k) -> x.upward(slot, k, 0));
        refusedWith("tell, knot" + of, GONE, knots, (x, k) -> x.tell(slot, k));
    }

    /** Promise 6: both exceptions, in their order, "nothing changes of both". */
    private static void readRefused() {
        refusedWith("read, slot", GONE, NO_SLOTS, (x, s) -> x.read(s, 38));
        refusedWith("read, n", WRONG, new int[] {-1, 41, 400, 401, LOW, HIGH}, (x, n) -> x.read(Scene.RING, n));
        refusedWith("read, n, empty slot", WRONG, new int[] {-1, 41}, (x, n) -> x.read(Scene.NOTHING, n));
        refusedWith("read, both", GONE, new int[] {-1, 41, LOW, HIGH}, (x, n) -> x.read(8, n));
        refusedWith("read, both", GONE, new int[] {-1, 41, LOW, HIGH}, (x, n) -> x.read(-1, n));
    }

    /** Promises 3, 4: "False: both are one, it is there, or DEGREE bars it"; "it isn't there". */
    private static void linesRefused() {
        refused("line of one knot", NO, x -> Check.bit(x.line(Scene.SPLIT, 2, 2)));
        refused("line of the only knot", NO, x -> Check.bit(x.line(Scene.ONE_KNOT, 0, 0)));
        refused("line that is there", NO, x -> Check.bit(x.line(Scene.SPLIT, 0, 1)));
        refused("line that is there, told from its end", NO, x -> Check.bit(x.line(Scene.SPLIT, 3, 2)));
        refused("line that is there, knots full", NO, x -> Check.bit(x.line(Scene.ONE_LINE, 1, 0)));
        refused("both knots are full", NO, x -> Check.bit(x.line(Scene.RING, 0, 2)));
        refused("off of no line", NO, x -> Check.bit(x.off(Scene.RING, 0, 2)));
        refused("off of no line, between parts", NO, x -> Check.bit(x.off(Scene.SPLIT, 1, 2)));
        refused("off of one knot", NO, x -> Check.bit(x.off(Scene.RING, 3, 3)));
        refused("off of the only knot", NO, x -> Check.bit(x.off(Scene.ONE_KNOT, 0, 0)));
        refusedWith("lineAt behind the last", GONE, new int[] {5, 6, 96, HIGH}, (x, i) -> x.lineAt(Scene.RING, i));
        refusedWith("lineAt before the first", GONE, new int[] {-1, -5, LOW}, (x, i) -> x.lineAt(Scene.RING, i));
        refusedWith("lineAt without lines", GONE, new int[] {-1, 0, 1}, (x, i) -> x.lineAt(Scene.ONE_KNOT, i));
    }

    /** Promise 2: "or n, DEGREE are not as told (as everywhere: what lay there stays)". */
    private static void netsRefused() {
        int[] noKnots = {0, 25, -1, LOW, HIGH, 32, 256 + 5};
        int[] noDegrees = {0, 9, -1, LOW, HIGH, 32, 256 + 2};
        refusedWith("net, n", NO, noKnots, (x, n) -> Check.bit(x.net(Scene.RING, n, 2)));
        refusedWith("net, n, empty slot", NO, noKnots, (x, n) -> Check.bit(x.net(Scene.NOTHING, n, 2)));
        refusedWith("net, degree", NO, noDegrees, (x, d) -> Check.bit(x.net(Scene.RING, 5, d)));
        refusedWith("net, degree, empty slot", NO, noDegrees, (x, d) -> Check.bit(x.net(Scene.NOTHING, 5, d)));
        refused("net, both", NO, x -> Check.bit(x.net(Scene.RING, 0, 0)));
    }

    /** Promise 8: "False: .. GROUP, MOVES". */
    private static void turnedRefused() {
        int slot = Scene.RING;
        refusedWith("turned, group", NO, new int[] {-1, 2, LOW, HIGH}, (x, g) -> Check.bit(x.turned(slot, g, 4, 2, 16)));
        refusedWith("turned, a", NO, new int[] {0, -1, 25, LOW, HIGH}, (x, a) -> Check.bit(x.turned(slot, 0, a, 1, 0)));
        refusedWith("turned, b", NO, new int[] {0, -1, 25, LOW, HIGH}, (x, b) -> Check.bit(x.turned(slot, 0, 1, b, 0)));
        refusedWith("turns, a", NO, new int[] {0, -1, 13, LOW, HIGH}, (x, a) -> Check.bit(x.turned(slot, 1, a, 2, 0)));
        refusedWith("turns, b is not 2", NO, new int[] {0, 1, 3, -2, LOW, HIGH},
            (x, b) -> Check.bit(x.turned(slot, 1, 4, b, 0)));
        refused("25 things", NO, x -> Check.bit(x.turned(slot, 0, 5, 5, 0)));
        refused("24 things of two below 0", NO, x -> Check.bit(x.turned(slot, 0, -4, -6, 0)));
        refused("a b wraps to 0", NO, x -> Check.bit(x.turned(slot, 0, 65536, 65536, 0)));
        refused("a b wraps to 4", NO, x -> Check.bit(x.turned(slot, 0, (1 << 30) + 1, 4, 0)));
        refused("a 2 wraps to 8", NO, x -> Check.bit(x.turned(slot, 1, LOW + 4, 2, 0)));
        refused("thing 0 alone", NO, x -> Check.bit(x.turned(slot, 0, 8, 1, 1)));
        refused("thing 0 and others", NO, x -> Check.bit(x.turned(slot, 0, 8, 1, 131)));
        refused("no opposite", NO, x -> Check.bit(x.turned(slot, 0, 8, 1, 1 << 7)));
        refused("no opposite in the other place", NO, x -> Check.bit(x.turned(slot, 0, 1, 8, 1 << 3)));
        refused("no opposite by both places", NO, x -> Check.bit(x.turned(slot, 0, 3, 3, 1 << 4 | 1 << 5 | 1 << 7)));
        refused("turns, no opposite", NO, x -> Check.bit(x.turned(slot, 1, 4, 2, 1 << 3 | 1 << 4)));
        refused("the thing behind the last", NO, x -> Check.bit(x.turned(slot, 0, 8, 1, 1 << 8)));
        refused("bit 24 of 24 things", NO, x -> Check.bit(x.turned(slot, 0, 24, 1, 1 << 24)));
        refused("the highest bit", NO, x -> Check.bit(x.turned(slot, 0, 8, 1, LOW)));
        refused("the highest bit and moves", NO, x -> Check.bit(x.turned(slot, 0, 8, 1, LOW | 130)));
        refused("all bits", NO, x -> Check.bit(x.turned(slot, 0, 8, 1, -1)));
        refused("nine moves", NO, x -> Check.bit(x.turned(slot, 0, 10, 1, 0b1111111110)));
        refused("nine moves of 24", NO, x -> Check.bit(x.turned(slot, 0, 24, 1, 0b111100000001000000011110)));
        refused("nine turns", NO, x -> Check.bit(x.turned(slot, 1, 12, 2, 0b111111111000000000000)));
    }

    /** Promise 9: "False: .. kind, or it would have too much. NoSuchElementException (ahead)". */
    private static void gluedRefused() {
        int ring = Scene.RING;
        refusedWith("glued, kind", NO, new int[] {-1, 2, LOW, HIGH},
            (x, kind) -> Check.bit(x.glued(ring, kind, ring, Scene.ONE_LINE)));
        refused("25 knots", NO, x -> Check.bit(x.glued(ring, 0, ring, ring)));
        refused("25 knots, hung", NO, x -> Check.bit(x.glued(Scene.NOTHING, 1, ring, ring)));
        refused("26 knots", NO, x -> Check.bit(x.glued(ring, 0, Scene.THIRTEEN, Scene.ONE_LINE)));
        refused("48 knots", NO, x -> Check.bit(x.glued(ring, 1, Scene.GREATEST, Scene.ONE_LINE)));
        refused("576 knots", NO, x -> Check.bit(x.glued(ring, 0, Scene.GREATEST, Scene.GREATEST)));
        refused("degree of 9", NO, x -> Check.bit(x.glued(ring, 0, Scene.ALL_OF_NINE, Scene.ONE_LINE)));
        refused("degree of 9, hung", NO, x -> Check.bit(x.glued(ring, 1, Scene.ONE_KNOT, Scene.ALL_OF_NINE)));
        for (int s : new int[] {-1, 8}) {
            refused("glued, nothing in x, ahead of slot", GONE, x -> Check.bit(x.glued(s, 0, Scene.NOTHING, ring)));
            refused("glued, nothing in y, ahead of slot", GONE, x -> Check.bit(x.glued(s, 0, ring, Scene.NOTHING)));
            refused("copy, nothing in from, ahead of slot", GONE, x -> Check.bit(x.copy(Scene.NOTHING, s)));
        }
        refused("glued, nothing in x, ahead of kind", GONE, x -> Check.bit(x.glued(ring, 2, Scene.NOTHING, ring)));
        refused("glued, nothing in y, ahead of kind", GONE, x -> Check.bit(x.glued(ring, -1, ring, Scene.NOTHING)));
        refused("glued, no y, ahead of too much", GONE, x -> Check.bit(x.glued(ring, 0, Scene.GREATEST, 8)));
    }

    /** Promises 11, 14, 24, 34, 35, 39: "another what"; 26: "no such kind". */
    private static void anotherWhat() {
        int ring = Scene.RING;
        refusedWith("about, what", GONE, new int[] {-1, 5, LOW, HIGH}, (x, what) -> x.about(ring, what));
        refusedWith("far, what", GONE, new int[] {-1, 6, LOW, HIGH}, (x, what) -> x.far(ring, what));
        refusedWith("far, what, split", GONE, new int[] {-1, 6}, (x, what) -> x.far(Scene.SPLIT, what));
        refusedWith("found, what", GONE, new int[] {-1, 4, LOW, HIGH}, (x, what) -> x.found(what));
        refusedWith("heavy, what", GONE, new int[] {-1, 3, LOW, HIGH}, (x, what) -> x.heavy(ring, what));
        refusedWith("heavy, what, split", GONE, new int[] {-1, 3}, (x, what) -> x.heavy(Scene.SPLIT, what));
        refusedWith("upward, what", GONE, new int[] {-1, 2, LOW, HIGH}, (x, what) -> x.upward(ring, 0, what));
        refusedWith("upward, what, split", GONE, new int[] {-1, 2}, (x, what) -> x.upward(Scene.SPLIT, 0, what));
        refusedWith("count, what", GONE, new int[] {-1, 2, LOW, HIGH}, (x, what) -> x.count(what));
        refusedWith("falls, kind", GONE, new int[] {-1, 2, LOW, HIGH}, (x, kind) -> x.falls(ring, kind, 1));
        refusedWith("fallen, i", GONE, new int[] {-1, 2, LOW, HIGH}, (x, i) -> x.fallen(i));
        refusedWith("laid, knot", GONE, new int[] {-1, 5, 24, LOW, HIGH}, (x, knot) -> x.laid(knot));
    }

    /** Promises 16 to 18, 21, 26, 29, 37. */
    private static void numbersOutOfBounds() {
        int ring = Scene.RING;
        refusedWith("poly, k", GONE, new int[] {-1, 6, LOW, HIGH}, (x, k) -> x.poly(ring, k));
        refusedWith("poly, 13 knots", WRONG, new int[] {0, 12, 13}, (x, k) -> x.poly(Scene.THIRTEEN, k));
        refusedWith("above, x", WRONG, new int[] {-13, 13, LOW, HIGH}, (x, at) -> x.above(ring, at));
        refusedWith("above, 13 knots", WRONG, new int[] {-12, 0, 12}, (x, at) -> x.above(Scene.THIRTEEN, at));
        refusedWith("walks, k", WRONG, new int[] {-1, 11, LOW, HIGH}, (x, k) -> x.walks(ring, k));
        refusedWith("cool, steps", WRONG, new int[] {-1, 501, LOW, HIGH}, (x, n) -> x.cool(Scene.SPLIT, 7, n, 5));
        refusedWith("cool, heat", WRONG, new int[] {-1, 10001, LOW, HIGH}, (x, h) -> x.cool(Scene.SPLIT, 7, 5, h));
        refusedWith("cool, steps, no lines", WRONG, new int[] {-1, 501}, (x, n) -> x.cool(Scene.ONE_KNOT, 7, n, 5));
        refusedWith("cool, heat, no lines", WRONG, new int[] {-1, 10001}, (x, h) -> x.cool(Scene.ONE_KNOT, 7, 5, h));
        refusedWith("falls, many", WRONG, new int[] {-1, 3, LOW, HIGH}, (x, many) -> x.falls(ring, 0, many));
        refusedWith("falls of knots, many", WRONG, new int[] {-1, 3, LOW, HIGH}, (x, many) -> x.falls(ring, 1, many));
        refusedWith("lay, w", WRONG, new int[] {0, 25, -1, LOW, HIGH}, (x, w) -> x.lay(ring, w));
        refusedWith("lay, w, many knots", WRONG, new int[] {0, 25}, (x, w) -> x.lay(Scene.GREATEST, w));
        refusedWith("grow, pulls", WRONG, new int[] {0, 3, -1, LOW, HIGH}, (x, pulls) -> x.grow(ring, pulls));
    }

    /** Promise 19: "False: it can't be. NoSuchElementException: also no such LINES, i is not below j." */
    private static void changesRefused() {
        int ring = Scene.RING;
        for (boolean crossed : new boolean[] {false, true}) {
            refused("change, knot in common", NO, x -> Check.bit(x.change(ring, 0, 1, crossed)));
            refusedWith("change, i", GONE, new int[] {-1, 4, 5, LOW, HIGH},
                (x, i) -> Check.bit(x.change(ring, i, 4, crossed)));
            refusedWith("change, j", GONE, new int[] {-1, 0, 5, LOW, HIGH},
                (x, j) -> Check.bit(x.change(ring, 0, j, crossed)));
            refused("change, i over j", GONE, x -> Check.bit(x.change(ring, 3, 0, crossed)));
            refused("change without lines", GONE, x -> Check.bit(x.change(Scene.ONE_KNOT, 0, 1, crossed)));
            refused("change of the only line", GONE, x -> Check.bit(x.change(Scene.ONE_LINE, 0, 0, crossed)));
            refused("change, one line and none", GONE, x -> Check.bit(x.change(Scene.ONE_LINE, 0, 1, crossed)));
            refused("change, all lines are there", NO, x -> Check.bit(x.change(Scene.ALL_OF_NINE, 0, 35, crossed)));
        }
        // 0-1 and 3-4 crossed: 0-4 is there. 0-1 and 2-3 crossed: 1-2 is. 0-4 and 2-3: 4-3 is. 0-4 and 1-2: 0-1 is.
        refused("change, the first crossed one is there", NO, x -> Check.bit(x.change(ring, 0, 4, true)));
        refused("change, the second crossed one is there", NO, x -> Check.bit(x.change(ring, 0, 3, true)));
        refused("change, the second new one is there", NO, x -> Check.bit(x.change(ring, 1, 3, false)));
        refused("change, the first new one is there", NO, x -> Check.bit(x.change(ring, 1, 2, false)));
    }

    /** Promises 22, 23, 25: what is not as told is an IllegalArgumentException; what was found stays. */
    private static void searchesRefused() {
        refusedWith("seek, group", WRONG, new int[] {-1, 2, LOW, HIGH}, (x, group) -> x.seek(group, 4, 2, 2));
        refusedWith("seek, a", WRONG, new int[] {0, -1, 25, LOW, HIGH}, (x, a) -> x.seek(0, a, 1, 2));
        refusedWith("seek, b", WRONG, new int[] {0, -1, 25, LOW, HIGH}, (x, b) -> x.seek(0, 1, b, 2));
        refusedWith("seek, turns of a", WRONG, new int[] {0, -1, 13, LOW, HIGH}, (x, a) -> x.seek(1, a, 2, 2));
        refusedWith("seek, turns, b", WRONG, new int[] {0, 1, 3, -2, LOW, HIGH}, (x, b) -> x.seek(1, 4, b, 2));
        refusedWith("seek, degree", WRONG, new int[] {0, 9, -1, LOW, HIGH}, (x, degree) -> x.seek(0, 4, 1, degree));
        refusedWith("seek, degree, one thing", WRONG, new int[] {0, 9}, (x, degree) -> x.seek(0, 1, 1, degree));
        refused("seek, 25 things", WRONG, x -> x.seek(0, 5, 5, 2));
        refused("seek, below 0", WRONG, x -> x.seek(0, -4, -6, 2));
        refused("seek, a b wraps", WRONG, x -> x.seek(0, 65536, 65536, 2));
        refusedWith("small, n", WRONG, new int[] {0, 7, -1, LOW, HIGH}, (x, n) -> x.small(n, 2, 2));
        refusedWith("small, d", WRONG, new int[] {0, 9, -1, LOW, HIGH}, (x, d) -> x.small(3, d, 2));
        refusedWith("small, k", WRONG, new int[] {-1, LOW}, (x, k) -> x.small(3, 2, k));
        refusedWith("bound, d", WRONG, new int[] {0, 9, -1, LOW, HIGH}, (x, d) -> x.bound(d, 2));
        refusedWith("bound, k", WRONG, new int[] {-1, 25, LOW, HIGH}, (x, k) -> x.bound(3, k));
        refusedWith("bound, d, k is 0", WRONG, new int[] {0, 9}, (x, d) -> x.bound(d, 0));
    }

    /** Promises 13, 14, 20, 22, 26, 28, 31, 34 to 38: every NONE. */
    private static void answersNone() {
        int split = Scene.SPLIT;
        int one = Scene.ONE_KNOT;
        refused("distance, no way", NONE, x -> x.distance(split, 0, 2));
        refusedWith("far, not joined", NONE, new int[] {0, 1}, (x, what) -> x.far(split, what));
        refused("far, no ring", NONE, x -> x.far(split, 2));
        refused("far, no ring, one knot", NONE, x -> x.far(one, 2));
        refused("far, thin of one knot", NONE, x -> x.far(one, 3));
        refused("better, 13 knots", NONE, x -> x.better(Scene.THIRTEEN));
        refused("better, 24 knots", NONE, x -> x.better(Scene.GREATEST));
        refused("seek, there are none", NONE, x -> x.seek(0, 8, 1, 1));
        refused("falls, no line", NONE, x -> x.falls(one, 0, 1));
        refused("falls, no two lines", NONE, x -> x.falls(Scene.ONE_LINE, 0, 2));
        refused("falls, no knot would be left of one", NONE, x -> x.falls(one, 1, 1));
        refused("falls, not so many knots", NONE, x -> x.falls(one, 1, 2));
        refused("falls, no knot would be left of two", NONE, x -> x.falls(Scene.ONE_LINE, 1, 2));
        refusedWith("halves", NONE, new int[] {Scene.GREATEST}, (x, slot) -> x.halves(slot));
        refusedWith("hop, both are one", NONE, new int[] {0, 4}, (x, a) -> x.hop(Scene.RING, a, a));
        refused("hop, not joined", NONE, x -> x.hop(split, 0, 1));
        refused("hop, the only knot", NONE, x -> x.hop(one, 0, 0));
        refusedWith("heavy, not joined", NONE, new int[] {0, 1, 2}, (x, what) -> x.heavy(split, what));
        refused("heavy, without lines", NONE, x -> x.heavy(one, 1));
        refusedWith("upward, not joined", NONE, new int[] {0, 1}, (x, what) -> x.upward(split, 0, what));
        refused("tell, 13 knots", NONE, x -> x.tell(Scene.THIRTEEN, 0));
        refused("tell, not joined", NONE, x -> x.tell(split, 0));
        refusedWith("grow, 24 knots", NONE, new int[] {1, 2}, (x, pulls) -> x.grow(Scene.GREATEST, pulls));
        refusedWith("grow, no lines", NONE, new int[] {1, 2}, (x, pulls) -> x.grow(one, pulls));
        refused("grow, one line alone", NONE, x -> x.grow(Scene.ONE_LINE, 2));
        refused("missing, all are joined", NONE, x -> x.missing(Scene.ALL_OF_NINE));
        refused("missing, the only knot", NONE, x -> x.missing(one));
        refused("missing, the only line", NONE, x -> x.missing(Scene.ONE_LINE));
        refused("locks, not joined", NO, x -> Check.bit(x.locks(split)));
        refused("load, not joined", 0, x -> x.load(split, 0, 1));
        refused("apart, both are one", 0, x -> x.apart(Scene.RING, 2, 2));
    }

    /** As read() is told, so are the others: what there isn't comes ahead of what is out of its bounds. */
    private static void noSuchElementComesAheadWhereToldSo() {
        int none = Scene.NOTHING;
        refused("poly", GONE, x -> x.poly(Scene.THIRTEEN, 14));
        refused("above", GONE, x -> x.above(none, 13));
        refused("walks", GONE, x -> x.walks(none, 11));
        refused("cool", GONE, x -> x.cool(none, 1, 501, 10001));
        refused("falls", GONE, x -> x.falls(none, 0, 3));
        refused("lay", GONE, x -> x.lay(none, 25));
        refused("grow", GONE, x -> x.grow(none, 3));
        refused("grow, ahead of NONE", WRONG, x -> x.grow(Scene.GREATEST, 3));
        refused("falls, ahead of NONE", WRONG, x -> x.falls(Scene.ONE_KNOT, 1, 3));
        refused("tell, ahead of NONE", GONE, x -> x.tell(Scene.THIRTEEN, 13));
    }

    private static void asks(String what, On call) {
        WiredNets x = Scene.made();
        Map<String, String> before = Seen.of(x);
        call.answer(x);
        Check.text(what + " only asks", "", Seen.changes(before, Seen.of(x)));
        Scene.tapeIsAsItWas(what, x);
    }

    private static void asking() {
        for (int slot : new int[] {0, 1, 2, 3, 4, 5, 7}) {
            for (int what = 0; what < 6; what++) {
                int of = what;
                asks("far " + of + " of " + slot, x -> x.far(slot, of));
            }
            asks("distance", x -> x.distance(slot, 0, 0));
            asks("apart", x -> x.apart(slot, 0, 0));
            asks("walks", x -> x.walks(slot, 10));
            asks("halves", x -> x.halves(slot));
            asks("hop", x -> x.hop(slot, 0, 0));
            asks("locks", x -> Check.bit(x.locks(slot)));
            asks("load", x -> x.load(slot, 0, 0));
            asks("heavy 0", x -> x.heavy(slot, 0));
            asks("heavy 1", x -> x.heavy(slot, 1));
            asks("heavy 2", x -> x.heavy(slot, 2));
            asks("upward 0", x -> x.upward(slot, 0, 0));
            asks("upward 1", x -> x.upward(slot, 0, 1));
            asks("tell", x -> x.tell(slot, 0));
            asks("missing", x -> x.missing(slot));
        }
        asks("poly", x -> x.poly(0, 3));
        asks("above", x -> x.above(0, 0));
        asks("apart", x -> x.apart(5, 3, 8));
        asks("distance", x -> x.distance(3, 0, 12));
        asks("bound", x -> x.bound(3, 3));
        asks("seek", x -> x.seek(1, 4, 2, 3));
        asks("seek", x -> x.seek(0, 9, 1, 4));
    }

    /** Each call that changes something changes that, and nothing else. */
    private static void changingOneThing() {
        int none = Scene.NOTHING;
        changes("slot 0", "net over another", 1, x -> Check.bit(x.net(0, 24, 8)));
        changes("nets, slot 6", "net", 1, x -> Check.bit(x.net(none, 1, 1)));
        changes("slot 2", "line", 1, x -> Check.bit(x.line(2, 1, 2)));
        changes("slot 2", "off", 1, x -> Check.bit(x.off(2, 1, 0)));
        changes("slot 0", "turned over another", 1, x -> Check.bit(x.turned(0, 1, 4, 2, 1 << 4 | 1 << 5)));
        changes("nets, slot 6", "turned", 1, x -> Check.bit(x.turned(none, 1, 4, 2, 1 << 4 | 1 << 5)));
        changes("nets, slot 6", "glued", 1, x -> Check.bit(x.glued(none, 0, 0, 2)));
        changes("slot 0", "glued into x", 1, x -> Check.bit(x.glued(0, 0, 0, 2)));
        changes("slot 2", "glued into y", 1, x -> Check.bit(x.glued(2, 1, 0, 2)));
        changes("nets, slot 6", "copy", 1, x -> Check.bit(x.copy(0, none)));
        changes("slot 3", "copy over another", 1, x -> Check.bit(x.copy(0, 3)));
        changes("", "copy onto itself", 1, x -> Check.bit(x.copy(0, 0)));
        changes("slot 2", "change", 1, x -> Check.bit(x.change(2, 0, 1, true)));
        changes("slot 2", "grow", 2016, x -> x.grow(2, 2));
        changes("slot 7", "grow by one line", 2004, x -> x.grow(7, 1));
        changes("slot 2", "cool", 1, x -> x.cool(2, 1, 3, 0));
        changes("", "better, none is", 0, x -> x.better(0));
        changes("found", "small", 0, x -> x.small(4, 1, 3));
        changes("fallen", "falls", 4, x -> x.falls(0, 0, 1));
        changes("fallen", "none falls", 2, x -> x.falls(0, 0, 0));
        changes("laid", "lay of fewer knots", 1, x -> x.lay(7, 1));
        changes("laid", "lay of more knots", 12, x -> x.lay(4, 24));
        changes("tape", "feed", 60, x -> x.feed(0, 0, 0, 0, 0));
        changes("fault, slot 0, tape", "read over another", 0, x -> x.read(0, 38));
        changes("fault, nets, slot 6, tape", "read", 0, x -> x.read(none, 38));
        changes("fault, tape", "read with a fault", 1, x -> x.read(0, 37));
        changes("fault, tape", "read of none", 1, x -> x.read(0, 0));
    }
}
