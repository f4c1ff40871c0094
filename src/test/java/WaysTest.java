/** Promises 31 to 36: tables of ways, whether they lock, loads and patterns, ways up and down, news. */
public final class WaysTest {
    private static final String RING_5 = "knots 5 degree 2;ring 0 1 2 3 4;";
    private static final String PETERSEN = "knots 10 degree 3;ring 0 1 2 3 4;row 0 5;row 1 6;row 2 7;row 3 8;row 4 9;"
        + "ring 5 7 9 6 8;";

    private WaysTest() {
    }

    public static void main(String[] args) {
        hops();
        locking();
        loads();
        heavyLines();
        wrongWays();
        upAndDown();
        telling();
        Check.end("WaysTest");
    }

    private static WiredNets of(String text) {
        WiredNets x = new WiredNets();
        Check.lay(x, 0, text);
        return x;
    }

    private static void hops() {
        WiredNets x = of("knots 6 degree 3;ring 5 1 3 0 2 4;row 5 0;");
        Check.due("the least of those nearer", 0, () -> x.hop(0, 5, 2));
        Check.due("the only one", 2, () -> x.hop(0, 0, 4));
        Check.due("over the midst", 0, () -> x.hop(0, 3, 2));
        Check.due("two are as near: the lesser", 0, () -> x.hop(0, 3, 5));
        Check.due("to a neighbour", 1, () -> x.hop(0, 5, 1));
        Check.due("to itself", WiredNets.NONE, () -> x.hop(0, 3, 3));
        WiredNets split = of("knots 3 degree 2;row 0 1;");
        Check.due("joined, but the net isn't", WiredNets.NONE, () -> split.hop(0, 0, 1));
        Check.due("one knot", WiredNets.NONE, () -> of("knots 1 degree 1;").hop(0, 0, 0));
    }

    private static void locks(boolean due, String text) {
        WiredNets x = of(text);
        Check.due("locks " + text, Check.bit(due), () -> Check.bit(x.locks(0)));
    }

    private static void locking() {
        locks(false, "knots 1 degree 1;");
        locks(false, "knots 7 degree 3;star 0 1 2 3;row 3 4 5 6;");
        locks(false, "knots 3 degree 2;ring 0 1 2;");
        locks(false, "knots 4 degree 2;ring 0 1 2 3;");
        locks(true, RING_5);
        locks(true, "knots 9 degree 3;ring 0 1 2 3 4;row 0 5 6 7 8;");
        locks(false, "knots 9 degree 3;ring 0 1 2 3;row 0 5 6 7 8 4;");
        locks(true, PETERSEN);
        locks(false, "knots 6 degree 2;ring 0 1 2 3 4;");
        locks(false, "knots 6 degree 5;all 0 1 2 3 4 5;");
    }

    private static void loads() {
        WiredNets row = of("knots 4 degree 2;row 0 1 2 3;");
        Check.due("end of a row", 3, () -> row.load(0, 0, 1));
        Check.due("midst of a row", 4, () -> row.load(0, 1, 2));
        Check.due("and back", 4, () -> row.load(0, 2, 1));
        Check.due("no line", 0, () -> row.load(0, 0, 2));
        Check.due("no line to itself", 0, () -> row.load(0, 2, 2));
        WiredNets ring = of("knots 4 degree 2;ring 0 1 2 3;");
        long[][] due = {{0, 1, 3}, {1, 0, 3}, {0, 3, 2}, {3, 0, 2}, {1, 2, 2}, {2, 1, 2}, {2, 3, 1}, {3, 2, 1}};
        for (long[] line : due) {
            Check.due("load " + line[0] + " " + line[1], line[2], () -> ring.load(0, (int) line[0], (int) line[1]));
        }
        WiredNets split = of("knots 3 degree 2;row 0 1;");
        Check.due("not joined", 0, () -> split.load(0, 0, 1));
    }

    /** The greatest load, the first line that has it, the pattern. */
    private static void heavy(String text, long... due) {
        WiredNets x = of(text);
        for (int what = 0; what < 3; what++) {
            int at = what;
            Check.due("heavy " + at + " of " + text, due[at], () -> x.heavy(0, at));
        }
    }

    private static void heavyLines() {
        heavy("knots 1 degree 1;", 0, -1, 0);
        heavy("knots 2 degree 1;", -1, -1, -1);
        heavy("knots 2 degree 1;row 0 1;", 1, 1, 1);
        heavy("knots 4 degree 2;row 0 1 2 3;", 4, 34, 2);
        heavy("knots 4 degree 2;ring 0 1 2 3;", 3, 1, 2);
        heavy("knots 5 degree 4;star 4 0 1 2 3;", 4, 4, 1);
        heavy(RING_5, 3, 1, 2);
        heavy("knots 9 degree 8;all 0 1 2 3 4 5 6 7 8;", 1, 1, 1);
        heavy(PETERSEN, 5, 1, 2);
        heavy("knots 8 degree 4;all 0 1 2 3;all 4 5 6 7;row 0 4;", 16, 4, 4);
        heavy("knots 8 degree 4;all 0 1 2 3;all 4 5 6 7;row 3 7;", 16, 103, 4);
    }

    private static void wrongWays() {
        WiredNets x = of(RING_5);
        Check.noSuch("hop, no such knot", () -> x.hop(0, 0, 5));
        Check.noSuch("hop, knot below 0", () -> x.hop(0, -1, 0));
        Check.noSuch("hop, nothing there", () -> x.hop(1, 0, 0));
        Check.noSuch("locks, nothing there", () -> Check.bit(x.locks(1)));
        Check.noSuch("locks, no such slot", () -> Check.bit(x.locks(8)));
        Check.noSuch("load, no such knot", () -> x.load(0, 5, 0));
        Check.noSuch("load, nothing there", () -> x.load(7, 0, 0));
        Check.noSuch("heavy, another what", () -> x.heavy(0, 3));
        Check.noSuch("heavy, what below 0", () -> x.heavy(0, -1));
        Check.noSuch("heavy, nothing there", () -> x.heavy(1, 0));
        x.net(2, 2, 1);
        Check.noSuch("heavy, another what, not joined", () -> x.heavy(2, 3));
        Check.noSuch("upward, no such root", () -> x.upward(0, 5, 0));
        Check.noSuch("upward, root below 0", () -> x.upward(0, -1, 0));
        Check.noSuch("upward, another what", () -> x.upward(0, 0, 2));
        Check.noSuch("upward, what below 0", () -> x.upward(0, 0, -1));
        Check.noSuch("upward, nothing there", () -> x.upward(1, 0, 0));
        Check.noSuch("upward, not joined, another what", () -> x.upward(2, 0, 2));
        Check.noSuch("tell, no such knot", () -> x.tell(0, 5));
        Check.noSuch("tell, knot below 0", () -> x.tell(0, -1));
        Check.noSuch("tell, nothing there", () -> x.tell(1, 0));
        x.net(3, 11, 1);
        Check.noSuch("tell, no such knot of many", () -> x.tell(3, 11));
    }

    private static void upward(String text, int root, long greatest, long together) {
        WiredNets x = of(text);
        Check.due("upward 0 by " + root + " of " + text, greatest, () -> x.upward(0, root, 0));
        Check.due("upward 1 by " + root + " of " + text, together, () -> x.upward(0, root, 1));
    }

    private static void upAndDown() {
        upward("knots 1 degree 1;", 0, 0, 0);
        upward("knots 2 degree 1;", 0, -1, -1);
        upward("knots 2 degree 1;row 0 1;", 1, 1, 2);
        upward("knots 3 degree 2;ring 0 1 2;", 2, 1, 6);
        upward("knots 4 degree 2;ring 0 1 2 3;", 0, 2, 16);
        upward(RING_5, 0, 3, 32);
        // 2 and 4 are joined over 3, but that way goes down and then up.
        upward("knots 6 degree 2;ring 0 1 2 3 4 5;", 0, 4, 58);
        upward("knots 5 degree 2;row 0 1 2 3 4;", 2, 4, 40);
        // Of 1 and 3, as near to the root 2, the lesser is up: from 3 to 0 goes up to 1, then down.
        upward("knots 4 degree 3;ring 1 2 3;row 1 0;", 2, 2, 16);
        // Of 2 and 3, both 2 from the root, 2 is up: from 5 to 1 goes up 5 3 2 1. Were 3 up, it would take 4.
        upward("knots 6 degree 3;ring 0 1 2 3 4;row 3 5;", 0, 3, 54);
        upward(PETERSEN, 9, 3, 164);
    }

    private static void tell(String text, int knot, long due) {
        WiredNets x = of(text);
        Check.due("tell " + knot + " of " + text, due, () -> x.tell(0, knot));
    }

    private static void telling() {
        tell("knots 1 degree 1;", 0, 0);
        tell("knots 2 degree 1;", 0, -1);
        tell("knots 2 degree 1;row 0 1;", 1, 1);
        tell("knots 4 degree 3;all 0 1 2 3;", 3, 2);
        tell(RING_5, 0, 3);
        tell("knots 5 degree 4;star 0 1 2 3 4;", 0, 4);
        tell("knots 5 degree 4;star 0 1 2 3 4;", 2, 4);
        tell("knots 10 degree 2;row 0 1 2 3 4 5 6 7 8 9;", 0, 9);
        tell("knots 10 degree 2;row 0 1 2 3 4 5 6 7 8 9;", 4, 5);
        tell("knots 10 degree 8;star 0 1 2 3 4 5 6 7 8;row 8 9;", 0, 8);
        tell("knots 8 degree 3;ring 0 1 2 3;ring 4 5 6 7;row 0 4;row 1 5;row 2 6;row 3 7;", 6, 3);
        tell(PETERSEN, 0, 4);
        tell("knots 11 degree 8;star 0 1 2 3 4 5 6 7 8;row 8 9 10;", 0, -1);
    }
}
