/** Nets whose numbers are known by formulas: rows, rings, stars, all joined, none joined. */
final class Shapes {
    private Shapes() {
    }

    private static WiredNets empty(int n, int degree) {
        WiredNets x = new WiredNets();
        Check.hold("net of " + n, x.net(0, n, degree));
        return x;
    }

    private static void join(WiredNets x, int a, int b) {
        Check.hold("line " + a + " " + b, x.line(0, a, b));
    }

    static WiredNets none(int n) {
        return empty(n, 1);
    }

    static WiredNets row(int n) {
        WiredNets x = empty(n, 2);
        for (int a = 1; a < n; a++) {
            join(x, a - 1, a);
        }
        return x;
    }

    /** At least three knots. */
    static WiredNets ring(int n) {
        WiredNets x = row(n);
        join(x, n - 1, 0);
        return x;
    }

    /** At most nine knots; the last one is joined with all others. */
    static WiredNets star(int n) {
        WiredNets x = empty(n, 8);
        for (int a = 0; a < n - 1; a++) {
            join(x, a, n - 1);
        }
        return x;
    }

    /** At most nine knots. */
    static WiredNets all(int n) {
        WiredNets x = empty(n, 8);
        for (int a = 0; a < n; a++) {
            for (int b = a + 1; b < n; b++) {
                join(x, a, b);
            }
        }
        return x;
    }
}
