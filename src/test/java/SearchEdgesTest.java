import java.util.ArrayList;
import java.util.HashSet;
import java.util.List;
import java.util.Set;

/** Promises 22 to 24: the edges of seeking moves, and all small nets there are. */
public final class SearchEdgesTest {
    private static final int NONE = WiredNets.NONE;

    private SearchEdgesTest() {
    }

    public static void main(String[] args) {
        seekOfOneThing();
        seekAllMoves();
        seekNone();
        seekOfEveryGroup();
        seekOf24Things();
        seekIsBestOfTurned();
        seekLeavesNothing();
        for (int n = 1; n <= 6; n++) {
            allSmallNets(n);
        }
        smallOfManyNs();
        smallIsKept();
        Check.end("SearchEdgesTest");
    }

    private static void seek(long due, int group, int a, int b, int degree) {
        WiredNets x = new WiredNets();
        Check.due("seek " + group + " " + a + " " + b + " " + degree, due, () -> x.seek(group, a, b, degree));
    }

    /** One thing is JOINED without MOVES. */
    private static void seekOfOneThing() {
        for (int degree = 1; degree <= 8; degree++) {
            seek(0, 0, 1, 1, degree);
            seek(2, 0, 2, 1, degree);
            seek(2, 0, 1, 2, degree);
            seek(2, 1, 1, 2, degree);
        }
    }

    /** FAR is 1 with all MOVES there are, if degree lets them be; with one less it is not. */
    private static void seekAllMoves() {
        for (int n = 2; n <= 9; n++) {
            seek((1 << n) - 2, 0, n, 1, n - 1);
            seek((1 << n) - 2, 0, n, 1, 8);
            seek((1 << n) - 2, 0, 1, n, n - 1);
            if (n % 2 == 0 && n > 2) {
                seek((1 << n) - 2, 1, n / 2, 2, n - 1);
                seek((1 << n) - 2, 1, n / 2, 2, 8);
            }
        }
        seek(510, 0, 3, 3, 8);
    }

    /** "NONE: there are none": too few MOVES for them to be JOINED. */
    private static void seekNone() {
        for (int n = 3; n <= 24; n++) {
            seek(NONE, 0, n, 1, 1);
            seek(NONE, 0, 1, n, 1);
        }
        seek(NONE, 0, 2, 2, 1);
        seek(NONE, 0, 3, 3, 3);
        seek(NONE, 0, 3, 3, 2);
        seek(NONE, 0, 4, 4, 2);
        seek(NONE, 0, 4, 6, 2);
        for (int a = 2; a <= 12; a++) {
            seek(NONE, 1, a, 2, 1);
        }
        seek(6, 0, 2, 2, 2);
        seek(6, 0, 3, 1, 2);
    }

    /** Every GROUP there is, by every degree; one object is asked for many of them. */
    private static void seekOfEveryGroup() {
        WiredNets x = new WiredNets();
        int asked = 0;
        for (int a = 24; a >= 1; a--) {
            for (int b = 1; a * b <= 24; b++) {
                for (int group = 0; group <= (b == 2 ? 1 : 0); group++) {
                    int[] due = new Seeker(group, a, b).bestByDegree();
                    if (asked + 16 > 512) {
                        x = new WiredNets();
                        asked = 0;
                    }
                    for (int degree = 8; degree >= 1; degree--) {
                        WiredNets of = x;
                        int[] g = {group, a, b, degree};
                        Check.due("seek " + group + " " + a + " " + b + " " + degree, due[degree],
                            () -> of.seek(g[0], g[1], g[2], g[3]));
                        // A small search behind each, so that none stands upon what the last one left.
                        Check.due("seek of three things", degree > 1 ? 6 : NONE, () -> of.seek(0, 3, 1, g[3]));
                    }
                    asked += 16;
                }
            }
        }
    }

    /** Tries every set of MOVES of a GROUP, as the document says it. */
    private static final class Seeker {
        private final int group;
        private final int a;
        private final int b;
        private final int[][] then;
        private final int[] best = new int[9];
        private final long[] worth = new long[9];

        Seeker(int group, int a, int b) {
            this.group = group;
            this.a = a;
            this.b = b;
            then = new int[a * b][a * b];
            for (int x = 0; x < a * b; x++) {
                for (int y = 0; y < a * b; y++) {
                    then[x][y] = putTogether(x, y);
                }
            }
        }

        private int putTogether(int x, int y) {
            int turn = group == 1 && x / a == 1 ? x % a - y % a : x % a + y % a;
            int flip = group == 1 ? (x / a == y / a ? 0 : 1) : (x / a + y / a) % b;
            return Math.floorMod(turn, a) + a * flip;
        }

        int[] bestByDegree() {
            for (int degree = 0; degree <= 8; degree++) {
                best[degree] = NONE;
                worth[degree] = Long.MAX_VALUE;
            }
            choose(1, 0, 0);
            return best;
        }

        /** Takes or leaves each thing, and its opposite with the lesser one of both. */
        private void choose(int thing, int moves, int many) {
            if (many > 8) {
                return;
            }
            if (thing == a * b) {
                judge(moves, many);
                return;
            }
            int opposite = 0;
            while (then[thing][opposite] != 0) {
                opposite++;
            }
            choose(thing + 1, moves, many);
            if (opposite >= thing) {
                choose(thing + 1, moves | 1 << thing | 1 << opposite, many + (opposite == thing ? 1 : 2));
            }
        }

        private void judge(int moves, int many) {
            int[] far = new int[a * b];
            int[] queue = new int[a * b];
            int reached = 1;
            int sum = 0;
            for (int at = 0; at < reached; at++) {
                sum += far[queue[at]];
                for (int s = 1; s < a * b; s++) {
                    int next = then[queue[at]][s];
                    if ((moves >> s & 1) == 1 && next != 0 && far[next] == 0) {
                        far[next] = far[queue[at]] + 1;
                        queue[reached++] = next;
                    }
                }
            }
            if (reached < a * b) {
                return;
            }
            long price = (far[queue[reached - 1]] * 10000L + sum) * 10 + many;
            for (int degree = Math.max(1, many); degree <= 8; degree++) {
                if (price < worth[degree] || price == worth[degree] && moves < best[degree]) {
                    worth[degree] = price;
                    best[degree] = moves;
                }
            }
        }
    }

    /** Found once by trying every set of things with PlainNets. */
    private static void seekOf24Things() {
        seek(323136, 0, 24, 1, 8);
        seek(323136, 0, 1, 24, 8);
        seek(13748, 1, 12, 2, 8);
        seek(1130778, 0, 4, 6, 7);
        seek(91394, 0, 2, 12, 6);
        seek(77824, 1, 12, 2, 3);
    }

    /** What seek() answers are MOVES, at most so many, by which turned() is JOINED. */
    private static void seekIsBestOfTurned() {
        int[][] groups = {{0, 24, 1}, {0, 1, 23}, {0, 4, 6}, {0, 2, 12}, {0, 12, 2}, {0, 3, 8}, {1, 12, 2}, {1, 11, 2}, {0, 13, 1}};
        for (int[] g : groups) {
            int before = Integer.MAX_VALUE;
            for (int degree = 2; degree <= 8; degree++) {
                WiredNets x = new WiredNets();
                int moves = x.seek(g[0], g[1], g[2], degree);
                String what = "seek " + g[0] + " " + g[1] + " " + g[2] + " " + degree;
                if (moves == NONE) {
                    Check.same(what + ", none was before", Integer.MAX_VALUE, before);
                    continue;
                }
                Check.hold(what + ", turned", x.turned(0, g[0], g[1], g[2], moves));
                Check.hold(what + ", at most so many", Integer.bitCount(moves) <= degree);
                int price = x.far(0, 5);
                Check.hold(what + ", joined", price < 1000000);
                Check.hold(what + ", no worse than by fewer", price <= before);
                before = price;
            }
        }
    }

    /** A search leaves no trace in the next one, nor in turned(). */
    private static void seekLeavesNothing() {
        WiredNets x = new WiredNets();
        Check.due("24 things", 323136, () -> x.seek(0, 24, 1, 8));
        Check.due("one thing", 0, () -> x.seek(0, 1, 1, 8));
        Check.due("none", NONE, () -> x.seek(0, 3, 3, 3));
        Check.due("8 things", 56, () -> x.seek(0, 8, 1, 3));
        Check.illegal("refused", () -> x.seek(0, 25, 1, 3));
        Check.due("8 things again", 56, () -> x.seek(0, 8, 1, 3));
        Check.due("turned of another group", 1, () -> Check.bit(x.turned(0, 0, 3, 1, 6)));
        Check.text("turned of another group", "3 2: 0-1 0-2 1-2", Seen.slot(x, 0));
    }

    /** All nets of n KNOTS: for each the most LINES at a KNOT, FAR (99: not JOINED) and the least one of its kind. */
    private static int[][] table(int n) {
        List<int[]> pairs = new ArrayList<>();
        int[][] number = new int[n][n];
        for (int a = 0; a < n; a++) {
            for (int b = a + 1; b < n; b++) {
                number[a][b] = pairs.size();
                number[b][a] = pairs.size();
                pairs.add(new int[] {a, b});
            }
        }
        List<int[]> orders = new ArrayList<>();
        order(new int[n], 0, orders, number, pairs);
        int[][] table = new int[1 << pairs.size()][];
        for (int bits = 0; bits < table.length; bits++) {
            table[bits] = new int[] {0, 0, bits};
            measure(n, bits, pairs, table[bits]);
            for (int[] order : orders) {
                int other = 0;
                for (int i = 0; i < order.length; i++) {
                    other |= (bits >> i & 1) << order[i];
                }
                table[bits][2] = Math.min(table[bits][2], other);
            }
        }
        return table;
    }

    /** What becomes of each pair by each way to number the KNOTS. */
    private static void order(int[] to, int at, List<int[]> out, int[][] number, List<int[]> pairs) {
        int n = to.length;
        if (at == n) {
            int[] moved = new int[pairs.size()];
            for (int i = 0; i < moved.length; i++) {
                moved[i] = number[to[pairs.get(i)[0]]][to[pairs.get(i)[1]]];
            }
            out.add(moved);
            return;
        }
        for (int x = 0; x < n; x++) {
            boolean taken = false;
            for (int i = 0; i < at; i++) {
                taken |= to[i] == x;
            }
            if (!taken) {
                to[at] = x;
                order(to, at + 1, out, number, pairs);
            }
        }
    }

    private static void measure(int n, int bits, List<int[]> pairs, int[] out) {
        int[][] d = new int[n][n];
        int[] lines = new int[n];
        for (int a = 0; a < n; a++) {
            for (int b = 0; b < n; b++) {
                d[a][b] = a == b ? 0 : 99;
            }
        }
        for (int i = 0; i < pairs.size(); i++) {
            if ((bits >> i & 1) == 1) {
                int[] p = pairs.get(i);
                d[p[0]][p[1]] = 1;
                d[p[1]][p[0]] = 1;
                out[0] = Math.max(out[0], Math.max(++lines[p[0]], ++lines[p[1]]));
            }
        }
        for (int m = 0; m < n; m++) {
            for (int a = 0; a < n; a++) {
                for (int b = 0; b < n; b++) {
                    d[a][b] = Math.min(d[a][b], d[a][m] + d[m][b]);
                }
            }
        }
        for (int[] row : d) {
            for (int x : row) {
                out[1] = Math.max(out[1], x);
            }
        }
    }

    /** "SMALL NETS of n KNOTS (1 to 6), each with at most d LINES, JOINED, FAR at most k", for each d and k. */
    private static void allSmallNets(int n) {
        int[][] table = table(n);
        WiredNets x = new WiredNets();
        for (int d = 1; d <= 8; d++) {
            for (int k : new int[] {0, 1, 2, 3, 4, 5, 6, 98, Integer.MAX_VALUE}) {
                int many = 0;
                Set<Integer> kinds = new HashSet<>();
                int fewest = NONE;
                int least = NONE;
                for (int bits = 0; bits < table.length; bits++) {
                    if (table[bits][0] <= d && table[bits][1] <= Math.min(k, 98)) {
                        many++;
                        kinds.add(table[bits][2]);
                        int lines = Integer.bitCount(bits);
                        if (fewest == NONE || lines < fewest) {
                            fewest = lines;
                            least = bits;
                        }
                    }
                }
                small(x, n, d, k, many, kinds.size(), fewest, least);
            }
        }
    }

    private static void small(WiredNets x, int n, int d, int k, int... due) {
        String what = "small " + n + " " + d + " " + k;
        Check.due(what, due[0], () -> x.small(n, d, k));
        for (int of = 0; of < 4; of++) {
            int at = of;
            Check.due(what + ", found " + at, due[at], () -> x.found(at));
        }
    }

    /** Many ns one behind another. */
    private static void smallOfManyNs() {
        WiredNets x = new WiredNets();
        for (int again = 0; again < 2; again++) {
            small(x, 6, 8, 5, 26704, 112, 5, 31);
            small(x, 1, 1, 0, 1, 1, 0, 0);
            small(x, 5, 8, 4, 728, 21, 4, 15);
            small(x, 2, 1, 0, 0, 0, NONE, NONE);
            small(x, 6, 2, 3, 60, 1, 6, 1880);
            small(x, 2, 1, 1, 1, 1, 1, 1);
            small(x, 4, 8, 3, 38, 6, 3, 7);
            small(x, 3, 8, 2, 4, 2, 2, 3);
        }
    }

    /** "Of the latest SMALL NETS"; "none yet". */
    private static void smallIsKept() {
        WiredNets x = new WiredNets();
        Check.illegal("refused", () -> x.small(7, 8, 5));
        for (int what = 0; what < 4; what++) {
            int of = what;
            Check.noSuch("found " + of + ", none yet", () -> x.found(of));
        }
        x.small(4, 1, 3);
        int[] none = {0, 0, NONE, NONE};
        for (int what = 0; what < 4; what++) {
            int of = what;
            Check.due("found " + of + " of no nets", none[of], () -> x.found(of));
        }
        x.small(4, 8, 3);
        int[][] wrong = {{0, 1, 1}, {7, 1, 1}, {3, 0, 1}, {3, 9, 1}, {3, 1, -1}};
        int[] due = {38, 6, 3, 7};
        for (int[] w : wrong) {
            Check.illegal("refused", () -> x.small(w[0], w[1], w[2]));
            for (int what = 0; what < 4; what++) {
                int of = what;
                Check.due("found " + of + " stays", due[of], () -> x.found(of));
            }
        }
        x.seek(0, 4, 1, 2);
        x.net(0, 4, 2);
        x.falls(0, 1, 1);
        Check.due("found stays", 38, () -> x.found(0));
        Check.noSuch("found 4", () -> x.found(4));
        Check.noSuch("found -1", () -> x.found(-1));
    }
}
