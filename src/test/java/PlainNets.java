import java.nio.charset.StandardCharsets;
import java.util.ArrayList;
import java.util.Arrays;
import java.util.HashMap;
import java.util.HashSet;
import java.util.List;
import java.util.Map;
import java.util.NoSuchElementException;
import java.util.Set;
import java.util.TreeSet;
import java.util.regex.Matcher;
import java.util.regex.Pattern;

/** The document once more, said as plainly and slowly as it reads: WiredNets must answer the same. */
public final class PlainNets {
    static final int NONE = -1;
    static final int FOREVER = 1000;

    /** A net: lines in a sorted set, as 32 a + b. */
    static final class Net {
        int n;
        int degree;
        TreeSet<Integer> lines = new TreeSet<>();

        Net(int n, int degree) {
            this.n = n;
            this.degree = degree;
        }

        Net(Net other) {
            this(other.n, other.degree);
            lines.addAll(other.lines);
        }

        static int key(int a, int b) {
            return 32 * Math.min(a, b) + Math.max(a, b);
        }

        boolean has(int a, int b) {
            return lines.contains(key(a, b));
        }

        int at(int a) {
            int many = 0;
            for (int b = 0; b < n; b++) {
                many += has(a, b) ? 1 : 0;
            }
            return many;
        }

        int line(int i) {
            return new ArrayList<>(lines).get(i);
        }

        int[][] distances() {
            int[][] d = new int[n][n];
            for (int a = 0; a < n; a++) {
                for (int b = 0; b < n; b++) {
                    d[a][b] = a == b ? 0 : has(a, b) ? 1 : FOREVER;
                }
            }
            return closed(d);
        }

        static int[][] closed(int[][] d) {
            for (int m = 0; m < d.length; m++) {
                for (int a = 0; a < d.length; a++) {
                    for (int b = 0; b < d.length; b++) {
                        d[a][b] = Math.min(d[a][b], d[a][m] + d[m][b]);
                    }
                }
            }
            return d;
        }

        int far() {
            int far = 0;
            for (int[] row : distances()) {
                for (int x : row) {
                    far = Math.max(far, x);
                }
            }
            return far >= FOREVER ? NONE : far;
        }

        int sum() {
            int twice = 0;
            for (int[] row : distances()) {
                for (int x : row) {
                    twice += x;
                }
            }
            return far() == NONE ? NONE : twice / 2;
        }

        int price() {
            return far() == NONE ? 1000000 : 1000 * far() + sum();
        }

        Net withoutKnots(Set<Integer> gone) {
            List<Integer> left = new ArrayList<>();
            for (int a = 0; a < n; a++) {
                if (!gone.contains(a)) {
                    left.add(a);
                }
            }
            Net out = new Net(left.size(), degree);
            for (int a = 0; a < left.size(); a++) {
                for (int b = a + 1; b < left.size(); b++) {
                    if (has(left.get(a), left.get(b))) {
                        out.lines.add(key(a, b));
                    }
                }
            }
            return out;
        }

        /** The change of two lines, null if it can't be. */
        Net changed(int i, int j, boolean crossed) {
            int x = line(i);
            int y = line(j);
            Set<Integer> four = new HashSet<>(Arrays.asList(x / 32, x % 32, y / 32, y % 32));
            if (i == j || four.size() < 4) {
                return null;
            }
            int one = crossed ? key(x / 32, y % 32) : key(x / 32, y / 32);
            int two = crossed ? key(x % 32, y / 32) : key(x % 32, y % 32);
            if (lines.contains(one) || lines.contains(two)) {
                return null;
            }
            Net out = new Net(this);
            out.lines.removeAll(Arrays.asList(x, y));
            out.lines.addAll(Arrays.asList(one, two));
            return out;
        }
    }

    private final Net[] slots = new Net[8];
    private byte[] tape = new byte[0];
    private int faultPlace = NONE;
    private int[] smallFound;
    private List<Integer> fell = new ArrayList<>();
    private int[] places = new int[0];

    private static void need(boolean there) {
        if (!there) {
            throw new NoSuchElementException();
        }
    }

    private static void ask(boolean fine) {
        if (!fine) {
            throw new IllegalArgumentException();
        }
    }

    private static boolean in(int x, int least, int most) {
        return least <= x && x <= most;
    }

    private Net get(int slot, int... knots) {
        need(in(slot, 0, 7) && slots[slot] != null);
        for (int knot : knots) {
            need(in(knot, 0, slots[slot].n - 1));
        }
        return slots[slot];
    }

    public boolean net(int slot, int n, int degree) {
        if (!in(slot, 0, 7) || !in(n, 1, 24) || !in(degree, 1, 8)) {
            return false;
        }
        slots[slot] = new Net(n, degree);
        return true;
    }

    public boolean line(int slot, int a, int b) {
        Net net = get(slot, a, b);
        if (a == b || net.has(a, b) || net.at(a) == net.degree || net.at(b) == net.degree) {
            return false;
        }
        return net.lines.add(Net.key(a, b));
    }

    public boolean off(int slot, int a, int b) {
        return get(slot, a, b).lines.remove(Net.key(a, b));
    }

    public int feed(int a, int b, int c, int d, int e) {
        if (tape.length > 380) {
            return NONE;
        }
        int at = tape.length;
        tape = Arrays.copyOf(tape, at + 20);
        for (int word : new int[] {a, b, c, d, e}) {
            tape[at++] = (byte) (word >> 24);
            tape[at++] = (byte) (word >> 16);
            tape[at++] = (byte) (word >> 8);
            tape[at++] = (byte) word;
        }
        return at;
    }

    private static final Pattern TOKEN = Pattern.compile("[ \n]+|[a-z]+|[0-9]+|;|.", Pattern.DOTALL);

    public int read(int slot, int n) {
        need(in(slot, 0, 7));
        ask(in(n, 0, tape.length));
        String text = new String(tape, 0, n, StandardCharsets.ISO_8859_1);
        tape = new byte[0];
        List<String> tokens = new ArrayList<>();
        List<Integer> starts = new ArrayList<>();
        Matcher matcher = TOKEN.matcher(text);
        while (matcher.find()) {
            if (matcher.group().charAt(0) != ' ' && matcher.group().charAt(0) != '\n') {
                tokens.add(matcher.group());
                starts.add(matcher.start());
            }
        }
        tokens.add("");
        starts.add(n);
        Net net = new Net(0, 0);
        int[] wrong = judge(tokens, net);
        faultPlace = wrong[0] == 0 ? NONE : starts.get(wrong[1]);
        if (wrong[0] == 0) {
            slots[slot] = net;
        }
        return wrong[0];
    }

    /** The fault and the number of its token. */
    private static int[] judge(List<String> tokens, Net net) {
        String[] head = {"knots", "0", "degree", "0", ";"};
        for (int i = 0; i < 5; i++) {
            String token = tokens.get(i);
            if (!head[i].equals("0")) {
                if (!token.equals(head[i])) {
                    return new int[] {1, i};
                }
                continue;
            }
            if (!token.matches("[0-9]+")) {
                return new int[] {1, i};
            }
            if (token.length() > 3 || !in(Integer.parseInt(token), 1, i == 1 ? 24 : 8)) {
                return new int[] {2, i};
            }
            net.n = i == 1 ? Integer.parseInt(token) : net.n;
            net.degree = Integer.parseInt(token);
        }
        int at = 5;
        for (int clause = 1; !tokens.get(at).isEmpty(); clause++) {
            String word = tokens.get(at);
            if (!word.matches("row|ring|all|star|off")) {
                return new int[] {1, at};
            }
            if (clause > 20) {
                return new int[] {2, at};
            }
            List<Integer> knots = new ArrayList<>();
            for (at++; ; at++) {
                String token = tokens.get(at);
                if (token.equals(";") && knots.size() >= 2) {
                    break;
                }
                if (!token.matches("[0-9]+") || word.equals("off") && knots.size() == 2) {
                    return new int[] {1, at};
                }
                if (knots.size() == 12 || token.length() > 3) {
                    return new int[] {2, at};
                }
                int knot = Integer.parseInt(token);
                if (knot >= net.n) {
                    return new int[] {3, at};
                }
                if (knots.contains(knot)) {
                    return new int[] {4, at};
                }
                knots.add(knot);
            }
            int wrong = carryOut(word, knots, net);
            if (wrong != 0) {
                return new int[] {wrong, at};
            }
            at++;
        }
        return new int[] {0, 0};
    }

    private static int carryOut(String word, List<Integer> k, Net net) {
        List<int[]> lines = new ArrayList<>();
        int many = k.size();
        for (int j = 1; j < many; j++) {
            switch (word) {
                case "row":
                case "ring":
                    lines.add(new int[] {k.get(j - 1), k.get(j)});
                    break;
                case "star":
                    lines.add(new int[] {k.get(0), k.get(j)});
                    break;
                case "all":
                    for (int i = 0; i < j; i++) {
                        lines.add(new int[] {k.get(i), k.get(j)});
                    }
                    break;
                default:
                    return net.lines.remove(Net.key(k.get(0), k.get(1))) ? 0 : 5;
            }
        }
        if (word.equals("ring")) {
            lines.add(new int[] {k.get(many - 1), k.get(0)});
        }
        for (int[] line : lines) {
            if (net.has(line[0], line[1])) {
                return 5;
            }
            if (net.at(line[0]) >= net.degree || net.at(line[1]) >= net.degree) {
                return 6;
            }
            net.lines.add(Net.key(line[0], line[1]));
        }
        return 0;
    }

    public int fault() {
        return faultPlace;
    }

    private static boolean isGroup(int group, int a, int b) {
        return in(group, 0, 1) && in(a, 1, 24) && in(b, 1, 24) && a * b <= 24 && (group == 0 || b == 2);
    }

    private static int then(int group, int a, int b, int x, int y) {
        int i = x % a;
        int f = x / a;
        int j = y % a;
        int g = y / a;
        if (group == 0) {
            return (i + j) % a + a * ((f + g) % b);
        }
        return Math.floorMod(f == 1 ? i - j : i + j, a) + a * (f == g ? 0 : 1);
    }

    /** Null: they are no moves. */
    private static Net turnedBy(int group, int a, int b, int moves) {
        int n = a * b;
        if (moves < 0 || moves >= 1L << n || moves % 2 != 0 || Integer.bitCount(moves) > 8) {
            return null;
        }
        Net net = new Net(n, Math.max(1, Integer.bitCount(moves)));
        for (int s = 0; s < n; s++) {
            if ((moves >> s & 1) == 0) {
                continue;
            }
            boolean back = false;
            for (int t = 0; t < n; t++) {
                back |= then(group, a, b, s, t) == 0 && (moves >> t & 1) != 0;
            }
            if (!back) {
                return null;
            }
            for (int x = 0; x < n; x++) {
                net.lines.add(Net.key(x, then(group, a, b, x, s)));
            }
        }
        return net;
    }

    public boolean turned(int slot, int group, int a, int b, int moves) {
        if (!in(slot, 0, 7) || !isGroup(group, a, b)) {
            return false;
        }
        Net net = turnedBy(group, a, b, moves);
        if (net == null) {
            return false;
        }
        slots[slot] = net;
        return true;
    }

    public boolean glued(int slot, int kind, int x, int y) {
        Net one = get(x);
        Net two = get(y);
        if (!in(slot, 0, 7) || !in(kind, 0, 1) || one.n * two.n > 24 || one.degree + two.degree > 8) {
            return false;
        }
        Net net = new Net(one.n * two.n, one.degree + two.degree);
        for (int v = 0; v < net.n; v++) {
            for (int u = 0; u < net.n; u++) {
                int p = v % one.n;
                int q = v / one.n;
                boolean inX = q == u / one.n && one.has(p, u % one.n) && (kind == 0 || q == 0);
                boolean inY = p == u % one.n && two.has(q, u / one.n);
                if (inX || inY) {
                    net.lines.add(Net.key(v, u));
                }
            }
        }
        slots[slot] = net;
        return true;
    }

    public boolean copy(int from, int slot) {
        Net net = get(from);
        if (!in(slot, 0, 7)) {
            return false;
        }
        slots[slot] = new Net(net);
        return true;
    }

    public int about(int slot, int what) {
        Net net = get(slot);
        need(in(what, 0, 4));
        int fewest = FOREVER;
        int most = 0;
        for (int a = 0; a < net.n; a++) {
            fewest = Math.min(fewest, net.at(a));
            most = Math.max(most, net.at(a));
        }
        return new int[] {net.n, net.degree, net.lines.size(), fewest, most}[what];
    }

    public int lineAt(int slot, int i) {
        Net net = get(slot);
        need(in(i, 0, net.lines.size() - 1));
        return net.line(i);
    }

    public int distance(int slot, int a, int b) {
        int d = get(slot, a, b).distances()[a][b];
        return d >= FOREVER ? NONE : d;
    }

    public int far(int slot, int what) {
        Net net = get(slot);
        need(in(what, 0, 5));
        switch (what) {
            case 0:
                return net.far();
            case 1:
                return net.sum();
            case 2:
                return girth(net);
            case 3:
                return thin(net);
            case 4:
                return thinOfKnots(net);
            default:
                return net.price();
        }
    }

    /** A ring has two ways between two of its knots: the shortest way without each of its lines. */
    private static int girth(Net net) {
        int girth = FOREVER;
        for (int line : net.lines) {
            Net without = new Net(net);
            without.lines.remove(line);
            girth = Math.min(girth, 1 + without.distances()[line / 32][line % 32]);
        }
        return girth >= FOREVER ? NONE : girth;
    }

    private static int thin(Net net) {
        if (net.n == 1) {
            return NONE;
        }
        int thin = FOREVER;
        for (int b = 1; b < net.n; b++) {
            thin = Math.min(thin, cut(net, 0, b));
        }
        return thin;
    }

    /** Fewest lines between a side with a and one with b, of all ways to part the knots. */
    private static int cut(Net net, int a, int b) {
        if (net.n > 12) {
            return flow(net, a, b, false);
        }
        int fewest = FOREVER;
        for (int side = 0; side < 1 << net.n; side++) {
            if ((side >> a & 1) == 1 && (side >> b & 1) == 0) {
                int between = 0;
                for (int line : net.lines) {
                    between += side >> line / 32 & 1 ^ side >> line % 32 & 1;
                }
                fewest = Math.min(fewest, between);
            }
        }
        return fewest;
    }

    private static int thinOfKnots(Net net) {
        int thin = net.n - 1;
        if (net.n <= 12) {
            for (int gone = 0; gone < (1 << net.n) - 1; gone++) {
                Set<Integer> set = new HashSet<>();
                for (int a = 0; a < net.n; a++) {
                    if ((gone >> a & 1) == 1) {
                        set.add(a);
                    }
                }
                if (set.size() < thin && net.withoutKnots(set).far() == NONE) {
                    thin = set.size();
                }
            }
            return thin;
        }
        for (int a = 0; a < net.n; a++) {
            for (int b = 0; b < net.n; b++) {
                if (a != b && !net.has(a, b)) {
                    thin = Math.min(thin, flow(net, a, b, true));
                }
            }
        }
        return thin;
    }

    /** Ford and Fulkerson on a matrix; with knots split where they hold one way each. */
    private static int flow(Net net, int a, int b, boolean byKnots) {
        int n = net.n;
        int[][] room = new int[2 * n][2 * n];
        for (int v = 0; v < n; v++) {
            room[v][n + v] = byKnots && v != a && v != b ? 1 : FOREVER;
            for (int u = 0; u < n; u++) {
                room[n + v][u] = net.has(v, u) ? 1 : 0;
            }
        }
        int ways = 0;
        while (push(room, a, b, new boolean[2 * n])) {
            ways++;
        }
        return ways;
    }

    private static boolean push(int[][] room, int at, int to, boolean[] seen) {
        if (at == to) {
            return true;
        }
        seen[at] = true;
        for (int v = 0; v < room.length; v++) {
            if (!seen[v] && room[at][v] > 0 && push(room, v, to, seen)) {
                room[at][v]--;
                room[v][at]++;
                return true;
            }
        }
        return false;
    }

    public int apart(int slot, int a, int b) {
        Net net = get(slot, a, b);
        return a == b ? 0 : cut(net, a, b);
    }

    public long poly(int slot, int k) {
        Net net = get(slot);
        need(in(k, 0, net.n));
        ask(net.n <= 12);
        return determinant(net)[k];
    }

    /** Faddeev and Le Verrier. */
    private static long[] determinant(Net net) {
        int n = net.n;
        long[] c = new long[n + 1];
        c[n] = 1;
        long[][] m = new long[n][n];
        for (int k = 1; k <= n; k++) {
            m = times(net, m);
            for (int v = 0; v < n; v++) {
                m[v][v] += c[n - k + 1];
            }
            long[][] am = times(net, m);
            long trace = 0;
            for (int v = 0; v < n; v++) {
                trace += am[v][v];
            }
            c[n - k] = -trace / k;
        }
        return c;
    }

    private static long[][] times(Net net, long[][] m) {
        long[][] out = new long[net.n][net.n];
        for (int v = 0; v < net.n; v++) {
            for (int w = 0; w < net.n; w++) {
                for (int u = 0; u < net.n && net.has(v, w); u++) {
                    out[v][u] += m[w][u];
                }
            }
        }
        return out;
    }

    public int above(int slot, int x) {
        Net net = get(slot);
        ask(net.n <= 12 && in(x, -12, 12));
        int many = 0;
        for (double root : eigenvalues(net)) {
            many += root > x + 1e-6 ? 1 : 0;
        }
        return many;
    }

    /** Jacobi's turns. */
    private static double[] eigenvalues(Net net) {
        int n = net.n;
        double[][] m = new double[n][n];
        for (int line : net.lines) {
            m[line / 32][line % 32] = 1;
            m[line % 32][line / 32] = 1;
        }
        for (int sweep = 0; sweep < 60; sweep++) {
            for (int p = 0; p < n; p++) {
                for (int q = p + 1; q < n; q++) {
                    if (Math.abs(m[p][q]) < 1e-14) {
                        continue;
                    }
                    double angle = 0.5 * Math.atan2(2 * m[p][q], m[q][q] - m[p][p]);
                    double c = Math.cos(angle);
                    double s = Math.sin(angle);
                    for (int k = 0; k < n; k++) {
                        double x = m[k][p];
                        double y = m[k][q];
                        m[k][p] = c * x - s * y;
                        m[k][q] = s * x + c * y;
                    }
                    for (int k = 0; k < n; k++) {
                        double x = m[p][k];
                        double y = m[q][k];
                        m[p][k] = c * x - s * y;
                        m[q][k] = s * x + c * y;
                    }
                }
            }
        }
        double[] roots = new double[n];
        for (int v = 0; v < n; v++) {
            roots[v] = m[v][v];
        }
        return roots;
    }

    public long walks(int slot, int k) {
        Net net = get(slot);
        ask(in(k, 0, 10));
        long[][] m = new long[net.n][net.n];
        for (int v = 0; v < net.n; v++) {
            m[v][v] = 1;
        }
        for (int step = 0; step < k; step++) {
            m = times(net, m);
        }
        long sum = 0;
        for (int v = 0; v < net.n; v++) {
            sum += m[v][v];
        }
        return sum;
    }

    public boolean change(int slot, int i, int j, boolean crossed) {
        Net net = get(slot);
        need(0 <= i && i < j && j < net.lines.size());
        Net changed = net.changed(i, j, crossed);
        if (changed != null) {
            slots[slot] = changed;
        }
        return changed != null;
    }

    public int better(int slot) {
        Net net = get(slot);
        if (net.n > 12) {
            return NONE;
        }
        for (int made = 0; ; made++) {
            Net best = slots[slot];
            for (int i = 0; i < best.lines.size(); i++) {
                for (int j = i + 1; j < best.lines.size(); j++) {
                    for (int crossed = 0; crossed < 2; crossed++) {
                        Net changed = slots[slot].changed(i, j, crossed == 1);
                        if (changed != null && changed.price() < best.price()) {
                            best = changed;
                        }
                    }
                }
            }
            if (best == slots[slot]) {
                return made;
            }
            slots[slot] = best;
        }
    }

    public int cool(int slot, int seed, int steps, int heat) {
        Net net = get(slot);
        ask(in(steps, 0, 500) && in(heat, 0, 10000));
        int many = net.lines.size();
        int made = 0;
        for (int step = 0; step < steps && many > 0; step++) {
            int[] draws = new int[3];
            for (int i = 0; i < 3; i++) {
                seed = seed * 1103515245 + 12345;
                draws[i] = (seed >> 16 & 0x7fff) % (i < 2 ? many : 2);
            }
            Net before = slots[slot];
            Net changed = before.changed(Math.min(draws[0], draws[1]), Math.max(draws[0], draws[1]), draws[2] == 1);
            if (changed != null && changed.price() <= before.price() + heat) {
                slots[slot] = changed;
                made++;
            }
            heat = Math.max(0, heat - 1);
        }
        return made;
    }

    public int seek(int group, int a, int b, int degree) {
        ask(isGroup(group, a, b) && in(degree, 1, 8));
        long best = Long.MAX_VALUE;
        int found = NONE;
        for (int moves = 0; moves < 1 << a * b; moves += 2) {
            if (Integer.bitCount(moves) > degree) {
                continue;
            }
            Net net = turnedBy(group, a, b, moves);
            if (net == null || net.far() == NONE) {
                continue;
            }
            long worth = (net.far() * 100000L + net.sum()) * 10 + Integer.bitCount(moves);
            if (worth < best) {
                best = worth;
                found = moves;
            }
        }
        return found;
    }

    public int small(int n, int d, int k) {
        ask(in(n, 1, 6) && in(d, 1, 8) && k >= 0);
        List<int[]> pairs = new ArrayList<>();
        for (int a = 0; a < n; a++) {
            for (int b = a + 1; b < n; b++) {
                pairs.add(new int[] {a, b});
            }
        }
        List<int[]> orders = new ArrayList<>();
        permute(new int[n], 0, orders);
        int many = 0;
        Set<Integer> kinds = new HashSet<>();
        int fewest = NONE;
        int least = NONE;
        for (int bits = 0; bits < 1 << pairs.size(); bits++) {
            Net net = new Net(n, 8);
            for (int i = 0; i < pairs.size(); i++) {
                if ((bits >> i & 1) == 1) {
                    net.lines.add(Net.key(pairs.get(i)[0], pairs.get(i)[1]));
                }
            }
            int most = 0;
            for (int a = 0; a < n; a++) {
                most = Math.max(most, net.at(a));
            }
            if (most > d || net.far() == NONE || net.far() > k) {
                continue;
            }
            many++;
            kinds.add(leastOfKind(net, orders, pairs));
            if (fewest == NONE || net.lines.size() < fewest) {
                fewest = net.lines.size();
                least = bits;
            }
        }
        smallFound = new int[] {many, kinds.size(), fewest, least};
        return many;
    }

    private static void permute(int[] order, int at, List<int[]> out) {
        if (at == order.length) {
            out.add(order.clone());
            return;
        }
        for (int x = 0; x < order.length; x++) {
            boolean taken = false;
            for (int i = 0; i < at; i++) {
                taken |= order[i] == x;
            }
            if (!taken) {
                order[at] = x;
                permute(order, at + 1, out);
            }
        }
    }

    private static int leastOfKind(Net net, List<int[]> orders, List<int[]> pairs) {
        int least = Integer.MAX_VALUE;
        for (int[] order : orders) {
            int bits = 0;
            for (int i = 0; i < pairs.size(); i++) {
                bits |= net.has(order[pairs.get(i)[0]], order[pairs.get(i)[1]]) ? 1 << i : 0;
            }
            least = Math.min(least, bits);
        }
        return least;
    }

    public int found(int what) {
        need(smallFound != null && in(what, 0, 3));
        return smallFound[what];
    }

    public int bound(int d, int k) {
        ask(in(d, 1, 8) && in(k, 0, 24));
        double sum = 1;
        for (int i = 0; i < k; i++) {
            sum += d * Math.pow(d - 1, i);
        }
        return (int) Math.min(sum, 1e9);
    }

    public int falls(int slot, int kind, int many) {
        Net net = get(slot);
        need(in(kind, 0, 1));
        ask(in(many, 0, 2));
        int things = kind == 0 ? net.lines.size() : net.n;
        if (many > things || kind == 1 && many == things) {
            return NONE;
        }
        int worst = NONE;
        for (int i = 0; i < (many > 0 ? things : 1); i++) {
            for (int j = i + 1; j < (many > 1 ? things : i + 2); j++) {
                List<Integer> row = new ArrayList<>(Arrays.asList(i, j)).subList(0, many);
                int far = farWithout(net, kind, row);
                if (far > worst) {
                    worst = far;
                    fell = row;
                }
            }
        }
        return worst;
    }

    private static int farWithout(Net net, int kind, List<Integer> row) {
        Net left = new Net(net);
        for (int i : row) {
            if (kind == 0) {
                left.lines.remove(net.line(i));
            }
        }
        if (kind == 1) {
            left = net.withoutKnots(new HashSet<>(row));
        }
        return left.far() == NONE ? 100 : left.far();
    }

    public int fallen(int i) {
        need(in(i, 0, fell.size() - 1));
        return fell.get(i);
    }

    public int halves(int slot) {
        Net net = get(slot);
        if (net.n > 14) {
            return NONE;
        }
        int fewest = FOREVER;
        for (int set = 0; set < 1 << net.n; set++) {
            if (Integer.bitCount(set) == net.n / 2) {
                int between = 0;
                for (int line : net.lines) {
                    between += (set >> line / 32 & 1) != (set >> line % 32 & 1) ? 1 : 0;
                }
                fewest = Math.min(fewest, between);
            }
        }
        return fewest;
    }

    private static int length(Net net, int[] lay, int w) {
        int sum = 0;
        for (int line : net.lines) {
            int p = lay[line / 32];
            int q = lay[line % 32];
            sum += Math.abs(p % w - q % w) + Math.abs(p / w - q / w);
        }
        return sum;
    }

    public int lay(int slot, int w) {
        Net net = get(slot);
        ask(in(w, 1, 24));
        int[] lay = new int[net.n];
        for (int k = 0; k < net.n; k++) {
            lay[k] = k;
        }
        if (net.n <= 8) {
            List<int[]> orders = new ArrayList<>();
            permute(new int[net.n], 0, orders);
            for (int[] order : orders) {
                lay = length(net, order, w) < length(net, lay, w) ? order : lay;
            }
        } else {
            for (int[] next = laidBetter(net, lay, w); next != lay; next = laidBetter(net, lay, w)) {
                lay = next;
            }
        }
        places = lay;
        return length(net, lay, w);
    }

    private static int[] laidBetter(Net net, int[] lay, int w) {
        int[] best = lay;
        for (int a = 0; a < net.n; a++) {
            for (int b = a + 1; b < net.n; b++) {
                int[] other = lay.clone();
                other[a] = lay[b];
                other[b] = lay[a];
                best = length(net, other, w) < length(net, best, w) ? other : best;
            }
        }
        return best;
    }

    public int laid(int knot) {
        need(in(knot, 0, places.length - 1));
        return places[knot];
    }

    private static int towards(Net net, int[][] d, int a, int b) {
        for (int c = 0; c < net.n; c++) {
            if (net.has(a, c) && d[c][b] < d[a][b]) {
                return c;
            }
        }
        return NONE;
    }

    public int hop(int slot, int a, int b) {
        Net net = get(slot, a, b);
        return net.far() == NONE ? NONE : towards(net, net.distances(), a, b);
    }

    /** All ways, each as a row of lines in a direction. */
    private static Map<Integer, List<Integer>> ways(Net net) {
        Map<Integer, List<Integer>> ways = new HashMap<>();
        int[][] d = net.distances();
        for (int s = 0; s < net.n; s++) {
            for (int t = 0; t < net.n; t++) {
                List<Integer> way = new ArrayList<>();
                for (int x = s; x != t; ) {
                    int y = towards(net, d, x, t);
                    way.add(32 * x + y);
                    x = y;
                }
                ways.put(32 * s + t, way);
            }
        }
        return ways;
    }

    public boolean locks(int slot) {
        Net net = get(slot);
        if (net.far() == NONE) {
            return false;
        }
        int many = 32 * net.n;
        boolean[][] follows = new boolean[many][many];
        for (List<Integer> way : ways(net).values()) {
            for (int i = 1; i < way.size(); i++) {
                follows[way.get(i - 1)][way.get(i)] = true;
            }
        }
        int[] state = new int[many];
        for (int x = 0; x < many; x++) {
            if (comesBack(follows, x, state)) {
                return true;
            }
        }
        return false;
    }

    private static boolean comesBack(boolean[][] follows, int x, int[] state) {
        if (state[x] != 0) {
            return state[x] == 1;
        }
        state[x] = 1;
        for (int y = 0; y < follows.length; y++) {
            if (follows[x][y] && comesBack(follows, y, state)) {
                return true;
            }
        }
        state[x] = 2;
        return false;
    }

    public int load(int slot, int a, int b) {
        Net net = get(slot, a, b);
        return net.far() == NONE ? 0 : loadOf(ways(net), 32 * a + b).size();
    }

    private static List<Integer> loadOf(Map<Integer, List<Integer>> ways, int directed) {
        List<Integer> out = new ArrayList<>();
        for (Map.Entry<Integer, List<Integer>> way : ways.entrySet()) {
            if (way.getValue().contains(directed)) {
                out.add(way.getKey());
            }
        }
        return out;
    }

    public int heavy(int slot, int what) {
        Net net = get(slot);
        need(in(what, 0, 2));
        if (net.far() == NONE) {
            return NONE;
        }
        Map<Integer, List<Integer>> ways = ways(net);
        int most = 0;
        int first = NONE;
        int pattern = 0;
        for (int a = 0; a < net.n; a++) {
            for (int b = 0; b < net.n; b++) {
                if (net.has(a, b)) {
                    List<Integer> pairs = loadOf(ways, 32 * a + b);
                    first = first == NONE || pairs.size() > most ? 32 * a + b : first;
                    most = Math.max(most, pairs.size());
                    pattern = Math.max(pattern, matching(pairs));
                }
            }
        }
        return new int[] {most, first, pattern}[what];
    }

    /** Most pairs that share neither sender nor receiver: as a flow from all senders to all receivers. */
    private static int matching(List<Integer> pairs) {
        int[][] room = new int[50][50];
        for (int pair : pairs) {
            room[48][pair / 32] = 1;
            room[pair / 32][24 + pair % 32] = 1;
            room[24 + pair % 32][49] = 1;
        }
        int many = 0;
        while (push(room, 48, 49, new boolean[50])) {
            many++;
        }
        return many;
    }

    public int upward(int slot, int root, int what) {
        Net net = get(slot, root);
        need(in(what, 0, 1));
        if (net.far() == NONE) {
            return NONE;
        }
        int[][] d = net.distances();
        int[][] climb = new int[net.n][net.n];
        for (int a = 0; a < net.n; a++) {
            for (int b = 0; b < net.n; b++) {
                boolean up = d[b][root] < d[a][root] || d[b][root] == d[a][root] && b < a;
                climb[a][b] = a == b ? 0 : net.has(a, b) && up ? 1 : FOREVER;
            }
        }
        Net.closed(climb);
        int greatest = 0;
        int together = 0;
        for (int a = 0; a < net.n; a++) {
            for (int b = 0; b < net.n; b++) {
                int shortest = FOREVER;
                for (int top = 0; top < net.n; top++) {
                    shortest = Math.min(shortest, climb[a][top] + climb[b][top]);
                }
                greatest = Math.max(greatest, shortest);
                together += shortest;
            }
        }
        return what == 0 ? greatest : together;
    }

    public int tell(int slot, int knot) {
        Net net = get(slot, knot);
        if (net.n > 10 || net.far() == NONE) {
            return NONE;
        }
        Set<Integer> sets = new HashSet<>(List.of(1 << knot));
        int rounds = 0;
        for (; !sets.contains((1 << net.n) - 1); rounds++) {
            Set<Integer> next = new HashSet<>();
            for (int set : sets) {
                next.addAll(told(net, set));
            }
            sets = next;
        }
        return rounds;
    }

    /** All sets that may know behind a round. */
    private static Set<Integer> told(Net net, int known) {
        Set<Integer> out = new HashSet<>(List.of(known));
        for (int a = 0; a < net.n; a++) {
            if ((known >> a & 1) == 1) {
                Set<Integer> more = new HashSet<>(out);
                for (int set : out) {
                    for (int b = 0; b < net.n; b++) {
                        if (net.has(a, b)) {
                            more.add(set | 1 << b);
                        }
                    }
                }
                out = more;
            }
        }
        return out;
    }

    public int grow(int slot, int pulls) {
        Net net = get(slot);
        ask(in(pulls, 1, 2));
        Net best = null;
        for (int i = 0; i < net.lines.size() && net.n < 24; i++) {
            for (int j = i + 1; j < (pulls == 2 ? net.lines.size() : i + 2); j++) {
                Net grown = pulled(net, pulls == 2 ? List.of(net.line(i), net.line(j)) : List.of(net.line(i)));
                if (grown != null && (best == null || grown.price() < best.price())) {
                    best = grown;
                }
            }
        }
        if (best == null) {
            return NONE;
        }
        best.n = net.n + 1;
        best.degree = Math.max(net.degree, 2 * pulls);
        slots[slot] = best;
        return best.price();
    }

    private static Net pulled(Net net, List<Integer> lines) {
        Net out = new Net(net);
        out.n++;
        for (int line : lines) {
            out.lines.remove(line);
            for (int end : new int[] {line / 32, line % 32}) {
                if (!out.lines.add(Net.key(end, net.n))) {
                    return null;
                }
            }
        }
        return out;
    }

    public int missing(int slot) {
        Net net = get(slot);
        int best = NONE;
        int least = Integer.MAX_VALUE;
        for (int a = 0; a < net.n; a++) {
            for (int b = a + 1; b < net.n; b++) {
                Net more = new Net(net);
                if (more.lines.add(Net.key(a, b)) && more.price() < least) {
                    least = more.price();
                    best = Net.key(a, b);
                }
            }
        }
        return best;
    }

    public int count(int what) {
        need(in(what, 0, 1));
        int held = 0;
        for (Net net : slots) {
            held += net != null ? 1 : 0;
        }
        return what == 0 ? held : tape.length;
    }
}
