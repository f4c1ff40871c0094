/** WiredNets beside PlainNets: the same net in slot 0 of both. */
final class Twin {
    final WiredNets wired = new WiredNets();
    final PlainNets plain = new PlainNets();
    private final String name;

    private Twin(String name) {
        this.name = name;
    }

    /** Lines as pairs of knots. */
    static Twin of(String name, int n, int degree, int... knots) {
        Twin twin = new Twin(name);
        twin.wired.net(0, n, degree);
        twin.plain.net(0, n, degree);
        for (int i = 0; i + 1 < knots.length; i += 2) {
            boolean put = twin.plain.line(0, knots[i], knots[i + 1]);
            Check.same(name + ", line " + knots[i] + " " + knots[i + 1], Check.bit(put),
                Check.bit(twin.wired.line(0, knots[i], knots[i + 1])));
        }
        return twin;
    }

    static Twin of(String text) {
        WiredNets read = new WiredNets();
        Check.lay(read, 0, text);
        return like(text, read);
    }

    /** A new object with the net of another one's slot 0. */
    static Twin like(String name, WiredNets other) {
        int lines = other.about(0, 2);
        int[] knots = new int[2 * lines];
        for (int i = 0; i < lines; i++) {
            knots[2 * i] = other.lineAt(0, i) / 32;
            knots[2 * i + 1] = other.lineAt(0, i) % 32;
        }
        return of(name, other.about(0, 0), other.about(0, 1), knots);
    }

    static Twin turned(int group, int a, int b, int moves) {
        Twin twin = new Twin("turned " + group + " " + a + " " + b + " " + moves);
        Check.hold(twin.name, twin.wired.turned(0, group, a, b, moves) && twin.plain.turned(0, group, a, b, moves));
        return twin;
    }

    /** A net whose lines a row of numbers (as a seed tells it) chooses. */
    static Twin chosen(int n, int degree, int lines, long seed) {
        java.util.Random random = new java.util.Random(seed);
        Twin twin = new Twin("knots " + n + " degree " + degree + " lines " + lines + " seed " + seed);
        twin.wired.net(0, n, degree);
        twin.plain.net(0, n, degree);
        for (int tries = 0, put = 0; tries < 150 && put < lines; tries++) {
            int a = tries < n - 1 ? tries + 1 : random.nextInt(n);
            int b = tries < n - 1 ? Math.max(0, tries - random.nextInt(3)) : random.nextInt(n);
            boolean joined = twin.plain.line(0, a, b);
            put += joined ? 1 : 0;
            Check.same(twin.name, Check.bit(joined), Check.bit(twin.wired.line(0, a, b)));
        }
        return twin;
    }

    void same(String call, long due, Check.Call got) {
        Check.due(call + " of " + name, due, got);
    }

    /** That the nets in slot 0 are still the same. */
    void sameNet(String behind) {
        StringBuilder net = new StringBuilder(plain.about(0, 0) + " " + plain.about(0, 1) + ":");
        for (int i = 0; i < plain.about(0, 2); i++) {
            net.append(' ').append(plain.lineAt(0, i) / 32).append('-').append(plain.lineAt(0, i) % 32);
        }
        Check.text(name + " behind " + behind, net.toString(), Seen.slot(wired, 0));
    }

    String name() {
        return name;
    }
}
