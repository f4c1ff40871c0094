/** Promises 1 to 12 and 39: how nets come to lie in slots, and what they are. */
public final class BuildTest {
    private BuildTest() {
    }

    public static void main(String[] args) {
        newObject();
        netsWithoutLines();
        lines();
        feeding();
        texts();
        faults();
        faultsOfTooMuch();
        clausesThatCannotBe();
        refusedReads();
        turnedNets();
        gluedNets();
        copies();
        aboutNets();
        numbersOfLines();
        counts();
        Check.end("BuildTest");
    }

    private static void newObject() {
        WiredNets x = new WiredNets();
        Check.same("NONE", -1, WiredNets.NONE);
        for (int slot = -1; slot <= 8; slot++) {
            int at = slot;
            Check.noSuch("about of a new object, slot " + at, () -> x.about(at, 0));
        }
        Check.due("no nets", 0, () -> x.count(0));
        Check.due("no tape", 0, () -> x.count(1));
        Check.due("no fault", WiredNets.NONE, () -> x.fault());
        Check.noSuch("nothing found", () -> x.found(0));
        Check.noSuch("nothing fell", () -> x.fallen(0));
        Check.noSuch("nothing laid", () -> x.laid(0));
    }

    private static void netsWithoutLines() {
        WiredNets x = new WiredNets();
        Check.due("least net", 1, () -> Check.bit(x.net(0, 1, 1)));
        Check.due("greatest net", 1, () -> Check.bit(x.net(7, 24, 8)));
        int[][] wrong = {{-1, 5, 2}, {8, 5, 2}, {7, 0, 2}, {7, 25, 2}, {7, 5, 0}, {7, 5, 9}, {7, -1, -1},
            {Integer.MIN_VALUE, 5, 2}, {7, Integer.MAX_VALUE, 2}, {7, 5, Integer.MIN_VALUE}};
        for (int[] w : wrong) {
            Check.due("net " + w[0] + " " + w[1] + " " + w[2], 0, () -> Check.bit(x.net(w[0], w[1], w[2])));
        }
        Check.due("what lay there stays", 24, () -> x.about(7, 0));
        x.line(7, 0, 1);
        Check.due("a net over another", 1, () -> Check.bit(x.net(7, 3, 2)));
        Check.due("its knots", 3, () -> x.about(7, 0));
        Check.due("its lines", 0, () -> x.about(7, 2));
    }

    private static void lines() {
        WiredNets x = new WiredNets();
        x.net(3, 4, 2);
        Check.due("line", 1, () -> Check.bit(x.line(3, 2, 0)));
        Check.due("line there already", 0, () -> Check.bit(x.line(3, 0, 2)));
        Check.due("line of one knot", 0, () -> Check.bit(x.line(3, 1, 1)));
        Check.due("line", 1, () -> Check.bit(x.line(3, 0, 1)));
        Check.due("degree bars the first", 0, () -> Check.bit(x.line(3, 0, 3)));
        Check.due("degree bars the second", 0, () -> Check.bit(x.line(3, 3, 0)));
        Check.due("lines", 2, () -> x.about(3, 2));
        Check.noSuch("no such knot", () -> Check.bit(x.line(3, 0, 4)));
        Check.noSuch("no such knot, both alike", () -> Check.bit(x.line(3, 4, 4)));
        Check.noSuch("knot below 0", () -> Check.bit(x.line(3, -1, 0)));
        Check.noSuch("nothing in slot", () -> Check.bit(x.line(2, 0, 1)));
        Check.noSuch("no such slot", () -> Check.bit(x.line(8, 0, 1)));
        Check.due("off", 1, () -> Check.bit(x.off(3, 0, 2)));
        Check.due("off again", 0, () -> Check.bit(x.off(3, 2, 0)));
        Check.due("off of one knot", 0, () -> Check.bit(x.off(3, 1, 1)));
        Check.due("degree bars no longer", 1, () -> Check.bit(x.line(3, 0, 3)));
        Check.noSuch("off, no such knot", () -> Check.bit(x.off(3, 4, 0)));
        Check.noSuch("off, nothing in slot", () -> Check.bit(x.off(0, 0, 1)));
        Check.noSuch("off, no such slot", () -> Check.bit(x.off(-1, 0, 1)));
    }

    private static void feeding() {
        WiredNets x = new WiredNets();
        for (int many = 20; many <= 400; many += 20) {
            int due = many;
            Check.due("feed to " + due, due, () -> x.feed(0x20202020, 0x20202020, 0x20202020, 0x20202020, 0x20202020));
        }
        Check.due("feed beyond 400", WiredNets.NONE, () -> x.feed(0, 0, 0, 0, 0));
        Check.due("none came", 400, () -> x.count(1));
        Check.due("all of it read", 1, () -> x.read(0, 400));
        Check.due("it ends too soon", 400, () -> x.fault());
        Check.due("tape is empty", 0, () -> x.count(1));
        Check.due("feed again", 20, () -> x.feed(0x6b6e6f74, 0x73312064, 0x65677265, 0x65313bff, -1));
        Check.due("highest byte first", 0, () -> x.read(5, 15));
        Check.due("one knot", 1, () -> x.about(5, 0));
        x.feed(0x6b6e6f74, 0x73312064, 0x65677265, 0x65313bff, -1);
        Check.due("byte 255", 1, () -> x.read(5, 16));
        Check.due("byte 255", 15, () -> x.fault());
    }

    private static void texts() {
        WiredNets x = new WiredNets();
        Check.lay(x, 0, "knots 3 degree 2;");
        Check.due("no clause", 0, () -> x.about(0, 2));
        Check.lay(x, 0, "knots5degree4;row0 1 2;\n star 4 0 3;off 1 0;ring 2 3 0;");
        long[] due = {2, 3, 4, 34, 67, 100};
        for (int i = 0; i < due.length; i++) {
            int at = i;
            Check.due("line " + at, due[at], () -> x.lineAt(0, at));
        }
        Check.due("lines", due.length, () -> x.about(0, 2));
        Check.lay(x, 1, " \n knots 024 degree 008 ; all 23 0 1 2 3 4 5 6 7 ; \n");
        Check.due("knots", 24, () -> x.about(1, 0));
        Check.due("degree", 8, () -> x.about(1, 1));
        Check.due("all of nine", 36, () -> x.about(1, 2));
        Check.lay(x, 2, "knots 24 degree 8;row 0 1 2 3 4 5 6 7 8 9 10 11;row 11 12 13 14 15 16 17 18 19 20 21 22;"
            + "row 22 23;");
        Check.due("a row of all", 23, () -> x.far(2, 0));
        StringBuilder twenty = new StringBuilder("knots 2 degree 1;");
        for (int clause = 0; clause < 20; clause++) {
            twenty.append(clause % 2 == 0 ? "row 0 1;" : "off 1 0;");
        }
        Check.lay(x, 3, twenty.toString());
        Check.due("no line is left", 0, () -> x.about(3, 2));
        Check.lay(x, 4, "knots 4 degree 3;star 3 2 1 0;");
        Check.due("star's midst", 3, () -> x.about(4, 4));
        Check.due("star's ends", 1, () -> x.about(4, 3));
    }

    private static void fault(String text, int fault, int place) {
        WiredNets x = new WiredNets();
        x.net(6, 7, 3);
        int length = Check.feed(x, text);
        Check.due("read of '" + text + "'", fault, () -> x.read(6, length));
        Check.due("fault of '" + text + "'", place, () -> x.fault());
        Check.due("what lay there stays", 7, () -> x.about(6, 0));
        Check.due("tape is empty", 0, () -> x.count(1));
    }

    private static void faults() {
        fault("", 1, 0);
        fault("   ", 1, 3);
        fault("knot 3 degree 2;", 1, 0);
        fault("knotss 3 degree 2;", 1, 0);
        fault("knots", 1, 5);
        fault("knots ;", 1, 6);
        fault("knots degree", 1, 6);
        fault("knots 3 ", 1, 8);
        fault("knots 3 2;", 1, 8);
        fault("knots 3 degree 2", 1, 16);
        fault("knots 3 degree 2 2;", 1, 17);
        fault("knots 3 degree 2;;", 1, 17);
        fault("knots 3 degree 2; rows 0 1;", 1, 18);
        fault("knots 3 degree 2; rowz 0 1;", 1, 18);
        fault("knots 3 degree 2; arow 0 1;", 1, 18);
        fault("knots 3 degree 2; row{ 0 1;", 1, 21);
        fault("knots 3 degree 2; row` 0 1;", 1, 21);
        fault("knots 3 degree 2; row :0 1;", 1, 22);
        fault("knots 3 degree 2; row /0 1;", 1, 22);
        fault("knots 3 degree 2; knots 0 1;", 1, 18);
        fault("knots 3 degree 2; 0 1;", 1, 18);
        fault("knots 3 degree 2; row;", 1, 21);
        fault("knots 3 degree 2; row 0;", 1, 23);
        fault("knots 3 degree 2; row 0 1", 1, 25);
        fault("knots 3 degree 2; row 0 1 ", 1, 26);
        fault("knots 3 degree 2; row 0 row", 1, 24);
        fault("knots 3 degree 2; off 0 1 2;", 1, 26);
        fault("knots 3 degree 2; off 0 1 2222;", 1, 26);
        fault("knots 3 degree 2; off 0;", 1, 23);
        fault("Knots 3 degree 2;", 1, 0);
        fault("knots\t3 degree 2;", 1, 5);
        fault("knots 3 degree 2; row 0,1;", 1, 23);
        fault("knots 3 degree 2; row 0 \u00e9;", 1, 24);
        fault("knots 3 degree 2; row 0 -1;", 1, 24);
        fault("knots 3 degree 2; row 0 3;", 3, 24);
        fault("knots 3 degree 2; row 0 999;", 3, 24);
        fault("knots 3 degree 2; row 1 0 1;", 4, 26);
        fault("knots 3 degree 2; off 2 002;", 4, 24);
        fault("knots 3 degree 2; row 0 0 !", 4, 24);
    }

    private static void faultsOfTooMuch() {
        fault("knots 0 degree 2;", 2, 6);
        fault("knots 25 degree 2;", 2, 6);
        fault("knots 0003 degree 2;", 2, 6);
        fault("knots 3 degree 0;", 2, 15);
        fault("knots 3 degree 9;", 2, 15);
        fault("knots 3 degree 0002;", 2, 15);
        fault("knots 3 degree 2; row 0 0001;", 2, 24);
        fault("knots 3 degree 2; row 0000 1;", 2, 22);
        fault("knots 3 degree 2; row 99999999999999999999 1;", 2, 22);
        String twelve = "knots 13 degree 2;row 0 1 2 3 4 5 6 7 8 9 10 11";
        fault(twelve + " 12;", 2, twelve.length() + 1);
        fault(twelve + " 99;", 2, twelve.length() + 1);
        fault(twelve + " 0;", 2, twelve.length() + 1);
        fault(twelve + " row", 1, twelve.length() + 1);
        StringBuilder twenty = new StringBuilder("knots 2 degree 1;");
        for (int clause = 0; clause < 20; clause++) {
            twenty.append(clause % 2 == 0 ? "row 0 1;" : "off 1 0;");
        }
        fault(twenty + "row 0 1;", 2, twenty.length());
        fault(twenty + " off", 2, twenty.length() + 1);
        fault(twenty + " 0", 1, twenty.length() + 1);
        fault(twenty + " rowe", 1, twenty.length() + 1);
    }

    private static void clausesThatCannotBe() {
        fault("knots 4 degree 2;row 0 1;row 1 0;", 5, 32);
        fault("knots 4 degree 2;row 0 1;ring 2 1 0;", 5, 35);
        fault("knots 4 degree 2;ring 0 1;", 5, 25);
        fault("knots 4 degree 2;off 0 1;", 5, 24);
        fault("knots 4 degree 2;row 0 1;off 1 0;off 0 1;", 5, 40);
        fault("knots 4 degree 2;star 0 1 2 3;", 6, 29);
        fault("knots 4 degree 2;all 0 1 2 3;", 6, 28);
        fault("knots 4 degree 1;row 0 1 2 ;", 6, 27);
        // The first line that can't be tells: 1 0 (there already) ahead of 0 3 (too many) ..
        fault("knots 4 degree 2;row 1 0 2;row 1 0 3;", 5, 36);
        // .. and 0 4 (too many) ahead of 4 3 (there already).
        fault("knots 5 degree 2;row 1 0 2;row 3 4;row 0 4 3;", 6, 44);
        // Of 'all' the later one counts first: 0 1, 0 2, 1 2 (there already), and not 0 3 (too many).
        fault("knots 4 degree 2;row 1 2;all 0 1 2 3;", 5, 36);
        fault("knots 4 degree 2;row 2 3;all 0 1 2 3;", 6, 36);
        // A line that is there already and would be too many: the lesser fault.
        fault("knots 4 degree 1;row 0 1;row 0 1;", 5, 32);
    }

    private static void refusedReads() {
        WiredNets x = new WiredNets();
        Check.feed(x, "knots 3 degree 2; oops");
        Check.due("fault", 1, () -> x.read(0, 22));
        Check.due("its place", 18, () -> x.fault());
        Check.feed(x, "knots 3 degree 2;");
        Check.noSuch("no such slot", () -> x.read(8, 17));
        Check.noSuch("no such slot, ahead", () -> x.read(-1, 21));
        Check.illegal("not so many bytes", () -> x.read(0, 21));
        Check.illegal("below 0", () -> x.read(0, -1));
        Check.due("the fault stays", 18, () -> x.fault());
        Check.due("the tape stays", 20, () -> x.count(1));
        Check.due("then it is read", 0, () -> x.read(0, 17));
        Check.due("without a fault", WiredNets.NONE, () -> x.fault());
        Check.feed(x, "knots 3 degree 2;");
        Check.due("none of it read", 1, () -> x.read(0, 0));
        Check.due("empty all the same", 0, () -> x.count(1));
        Check.due("ends at 0", 0, () -> x.fault());
    }

    private static boolean turn(WiredNets x, int group, int a, int b, int... moves) {
        int bits = 0;
        for (int move : moves) {
            bits |= 1 << move;
        }
        return x.turned(2, group, a, b, bits);
    }

    private static void turnedNets() {
        WiredNets x = new WiredNets();
        Check.hold("ring of 24", turn(x, 0, 24, 1, 1, 23));
        Check.due("ring of 24", 24, () -> x.far(2, 2));
        Check.hold("ring of 24, the other place", turn(x, 0, 1, 24, 1, 23));
        Check.due("ring of 24, the other place", 24, () -> x.far(2, 2));
        Check.hold("floor of 4 by 6", turn(x, 0, 4, 6, 1, 3, 4, 20));
        Check.due("degree", 4, () -> x.about(2, 1));
        Check.due("lines", 48, () -> x.about(2, 2));
        Check.due("far", 5, () -> x.far(2, 0));
        Check.hold("turns of 7", turn(x, 1, 7, 2, 7, 8, 10));
        Check.due("girth", 6, () -> x.far(2, 2));
        Check.due("far", 3, () -> x.far(2, 0));
        Check.hold("turns of 5", turn(x, 1, 5, 2, 1, 4, 5));
        Check.due("1 and then 5", 1, () -> x.distance(2, 1, 6));
        Check.due("6 and then 1: 5", 1, () -> x.distance(2, 6, 5));
        Check.hold("eight moves", turn(x, 0, 9, 1, 1, 2, 3, 4, 5, 6, 7, 8));
        Check.due("all joined", 36, () -> x.about(2, 2));
        Check.hold("own opposite", turn(x, 0, 2, 1, 1));
        Check.hold("a is 1", turn(x, 1, 1, 2, 1));
        Check.due("two knots", 2, () -> x.about(2, 0));
        Check.hold("no moves", turn(x, 0, 5, 1));
        Check.due("no lines", 0, () -> x.about(2, 2));
        Check.due("degree at least 1", 1, () -> x.about(2, 1));
        x.net(2, 23, 3);
        Check.hold("no such slot", !x.turned(8, 0, 8, 1, 130) && !x.turned(-1, 0, 8, 1, 130));
        Check.hold("no such group", !x.turned(2, 2, 8, 1, 130) && !x.turned(2, -1, 8, 1, 130));
        Check.hold("too many things", !x.turned(2, 0, 5, 5, 2) && !x.turned(2, 1, 13, 2, 1 << 13));
        Check.hold("a, b below 1", !x.turned(2, 0, 0, 1, 0) && !x.turned(2, 0, 1, 0, 0) && !x.turned(2, 0, -2, -2, 2));
        Check.hold("a b wraps", !x.turned(2, 0, 65536, 65536, 2) && !x.turned(2, 0, 1 << 31, 2, 0));
        Check.hold("b is not 2", !x.turned(2, 1, 4, 1, 2) && !x.turned(2, 1, 4, 3, 1 << 4));
        Check.hold("thing 0", !turn(x, 0, 8, 1, 0, 4));
        Check.hold("without its opposite", !turn(x, 0, 8, 1, 1) && !turn(x, 1, 5, 2, 1, 5));
        Check.hold("things that there aren't", !turn(x, 0, 8, 1, 4, 8) && !x.turned(2, 0, 8, 1, 1 << 31 | 16));
        Check.hold("nine moves", !turn(x, 0, 24, 1, 1, 23, 2, 22, 3, 21, 4, 20, 12));
        Check.due("what lay there stays", 23, () -> x.about(2, 0));
    }

    private static void gluedNets() {
        WiredNets x = new WiredNets();
        Check.lay(x, 0, "knots 4 degree 2;ring 0 1 2 3;");
        Check.lay(x, 1, "knots 3 degree 2;row 0 1 2;");
        Check.due("product", 1, () -> Check.bit(x.glued(2, 0, 0, 1)));
        Check.due("knots", 12, () -> x.about(2, 0));
        Check.due("degree", 4, () -> x.about(2, 1));
        Check.due("lines: 3 rings, 4 rows", 20, () -> x.about(2, 2));
        Check.due("p alike", 1, () -> x.distance(2, 1, 5));
        Check.due("q alike", 1, () -> x.distance(2, 8, 11));
        Check.due("hung", 1, () -> Check.bit(x.glued(3, 1, 0, 1)));
        Check.due("lines: 1 ring, 4 rows", 12, () -> x.about(3, 2));
        Check.due("over the ring", 5, () -> x.distance(3, 8, 11));
        Check.due("into x", 1, () -> Check.bit(x.glued(0, 0, 0, 0)));
        Check.due("sixteen knots", 16, () -> x.about(0, 0));
        Check.due("far", 4, () -> x.far(0, 0));
        Check.due("too many knots", 0, () -> Check.bit(x.glued(0, 0, 0, 1)));
        x.net(4, 2, 4);
        Check.due("too much degree", 0, () -> Check.bit(x.glued(0, 1, 2, 1)));
        Check.due("degree of 8", 1, () -> Check.bit(x.glued(5, 1, 4, 4)));
        x.net(4, 2, 5);
        Check.due("degree of 9", 0, () -> Check.bit(x.glued(5, 1, 2, 4)));
        Check.due("no such slot", 0, () -> Check.bit(x.glued(8, 0, 1, 1)));
        Check.due("no such kind", 0, () -> Check.bit(x.glued(5, 2, 1, 1)));
        Check.due("kind below 0", 0, () -> Check.bit(x.glued(5, -1, 1, 1)));
        Check.noSuch("nothing in x", () -> Check.bit(x.glued(8, 2, 7, 1)));
        Check.noSuch("nothing in y", () -> Check.bit(x.glued(8, 2, 1, 7)));
        Check.noSuch("no slot x", () -> Check.bit(x.glued(0, 0, -1, 1)));
        Check.noSuch("no slot y", () -> Check.bit(x.glued(0, 0, 1, 8)));
        Check.due("what lay there stays", 16, () -> x.about(0, 0));
    }

    private static void copies() {
        WiredNets x = new WiredNets();
        Check.lay(x, 0, "knots 4 degree 3;row 0 1 2 3;");
        Check.due("copy", 1, () -> Check.bit(x.copy(0, 7)));
        x.off(0, 0, 1);
        Check.due("the copy is one of its own", 3, () -> x.about(7, 2));
        Check.due("its degree", 3, () -> x.about(7, 1));
        Check.due("copy onto itself", 1, () -> Check.bit(x.copy(7, 7)));
        Check.due("still there", 3, () -> x.about(7, 2));
        Check.due("no such slot", 0, () -> Check.bit(x.copy(0, 8)));
        Check.due("slot below 0", 0, () -> Check.bit(x.copy(0, -1)));
        Check.noSuch("nothing there", () -> Check.bit(x.copy(1, 0)));
        Check.noSuch("nothing there, ahead", () -> Check.bit(x.copy(1, 8)));
        Check.noSuch("no such from", () -> Check.bit(x.copy(-1, 0)));
    }

    private static void aboutNets() {
        WiredNets x = new WiredNets();
        Check.lay(x, 0, "knots 6 degree 5;star 0 1 2 3;row 1 2;");
        long[] due = {6, 5, 4, 0, 3};
        for (int what = 0; what < 5; what++) {
            int at = what;
            Check.due("about " + at, due[at], () -> x.about(0, at));
        }
        Check.noSuch("another what", () -> x.about(0, 5));
        Check.noSuch("what below 0", () -> x.about(0, -1));
        Check.noSuch("nothing there", () -> x.about(1, 0));
        Check.noSuch("no such slot", () -> x.about(8, 0));
    }

    private static void numbersOfLines() {
        WiredNets x = new WiredNets();
        Check.lay(x, 0, "knots 24 degree 8;row 23 22 0 5;row 5 1;");
        long[] due = {5, 22, 32 + 5, 32 * 22 + 23};
        for (int i = 0; i < due.length; i++) {
            int at = i;
            Check.due("lineAt " + at, due[at], () -> x.lineAt(0, at));
        }
        Check.noSuch("no such line", () -> x.lineAt(0, 4));
        Check.noSuch("line below 0", () -> x.lineAt(0, -1));
        Check.noSuch("greatest int", () -> x.lineAt(0, Integer.MAX_VALUE));
        Check.noSuch("nothing there", () -> x.lineAt(1, 0));
        x.turned(1, 0, 24, 1, 0b111100000000000000011110);
        Check.due("last of 96", 32 * 22 + 23, () -> x.lineAt(1, 95));
        Check.noSuch("behind 96", () -> x.lineAt(1, 96));
    }

    private static void counts() {
        WiredNets x = new WiredNets();
        x.net(0, 1, 1);
        x.net(5, 2, 1);
        x.net(5, 3, 1);
        x.feed(0, 0, 0, 0, 0);
        Check.due("slots", 2, () -> x.count(0));
        Check.due("bytes", 20, () -> x.count(1));
        Check.noSuch("another what", () -> x.count(2));
        Check.noSuch("what below 0", () -> x.count(-1));
    }
}
