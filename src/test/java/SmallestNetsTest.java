/** Every net of one to five knots, every call of it, against the plain reading of the document. */
public final class SmallestNetsTest {
    private SmallestNetsTest() {
    }

    public static void main(String[] args) {
        for (int n = 1; n <= 5; n++) {
            int pairs = n * (n - 1) / 2;
            for (int bits = 0; bits < 1 << pairs; bits++) {
                measures(n, bits);
                ways(n, bits);
                harms(n, bits);
                changes(n, bits);
                growth(n, bits);
            }
        }
        Check.end("SmallestNetsTest");
    }

    /** Pairs are bits in the order of LINES; DEGREE is the most LINES that a KNOT has, so that some are full. */
    private static Twin net(int n, int bits) {
        int[] at = new int[n];
        int[] knots = new int[2 * Integer.bitCount(bits)];
        int pair = 0;
        int many = 0;
        int degree = 1;
        for (int a = 0; a < n; a++) {
            for (int b = a + 1; b < n; b++) {
                if ((bits >> pair & 1) == 1) {
                    knots[many++] = a;
                    knots[many++] = b;
                    degree = Math.max(degree, Math.max(++at[a], ++at[b]));
                }
                pair++;
            }
        }
        return Twin.of(n + " knots, lines " + Integer.toBinaryString(bits), n, degree, knots);
    }

    private static void measures(int n, int bits) {
        Twin t = net(n, bits);
        for (int what = 0; what < 6; what++) {
            int of = what;
            t.same("far " + of, t.plain.far(0, of), () -> t.wired.far(0, of));
        }
        for (int what = 0; what < 5; what++) {
            int of = what;
            t.same("about " + of, t.plain.about(0, of), () -> t.wired.about(0, of));
        }
        for (int a = 0; a < n; a++) {
            for (int b = 0; b < n; b++) {
                int from = a;
                int to = b;
                t.same("distance " + a + " " + b, t.plain.distance(0, from, to), () -> t.wired.distance(0, from, to));
                t.same("apart " + a + " " + b, t.plain.apart(0, from, to), () -> t.wired.apart(0, from, to));
            }
        }
        for (int k = 0; k <= n; k++) {
            int at = k;
            t.same("poly " + k, t.plain.poly(0, at), () -> t.wired.poly(0, at));
        }
        for (int x = -5; x <= 5; x++) {
            int at = x;
            t.same("above " + x, t.plain.above(0, at), () -> t.wired.above(0, at));
        }
        for (int k = 0; k <= 10; k++) {
            int at = k;
            t.same("walks " + k, t.plain.walks(0, at), () -> t.wired.walks(0, at));
        }
        t.same("halves", t.plain.halves(0), () -> t.wired.halves(0));
        t.same("missing", t.plain.missing(0), () -> t.wired.missing(0));
    }

    private static void ways(int n, int bits) {
        Twin t = net(n, bits);
        for (int a = 0; a < n; a++) {
            int from = a;
            for (int b = 0; b < n; b++) {
                int to = b;
                t.same("hop " + a + " " + b, t.plain.hop(0, from, to), () -> t.wired.hop(0, from, to));
                t.same("load " + a + " " + b, t.plain.load(0, from, to), () -> t.wired.load(0, from, to));
            }
            t.same("upward " + a + " 0", t.plain.upward(0, from, 0), () -> t.wired.upward(0, from, 0));
            t.same("upward " + a + " 1", t.plain.upward(0, from, 1), () -> t.wired.upward(0, from, 1));
            t.same("tell " + a, t.plain.tell(0, from), () -> t.wired.tell(0, from));
        }
        for (int what = 0; what < 3; what++) {
            int of = what;
            t.same("heavy " + of, t.plain.heavy(0, of), () -> t.wired.heavy(0, of));
        }
        t.same("locks", Check.bit(t.plain.locks(0)), () -> Check.bit(t.wired.locks(0)));
    }

    private static void harms(int n, int bits) {
        Twin t = net(n, bits);
        for (int kind = 0; kind < 2; kind++) {
            for (int many = 0; many < 3; many++) {
                int of = kind;
                int fall = many;
                t.same("falls " + of + " " + fall, t.plain.falls(0, of, fall), () -> t.wired.falls(0, of, fall));
                for (int i = 0; i < 3; i++) {
                    int at = i;
                    t.same("fallen " + at, Check.answerOf(() -> t.plain.fallen(at)), () -> t.wired.fallen(at));
                }
            }
        }
        for (int w : new int[] {1, 2, 3, 5}) {
            t.same("lay " + w, t.plain.lay(0, w), () -> t.wired.lay(0, w));
            for (int knot = 0; knot <= n; knot++) {
                int at = knot;
                t.same("laid " + at, Check.answerOf(() -> t.plain.laid(at)), () -> t.wired.laid(at));
            }
        }
    }

    private static void changes(int n, int bits) {
        int lines = Integer.bitCount(bits);
        for (int i = 0; i < lines; i++) {
            for (int j = i + 1; j < lines && n > 3; j++) {
                for (int crossed = 0; crossed < 2; crossed++) {
                    Twin t = net(n, bits);
                    int first = i;
                    int second = j;
                    boolean so = crossed == 1;
                    String call = "change " + i + " " + j + " " + so;
                    t.same(call, Check.bit(t.plain.change(0, i, j, so)), () -> Check.bit(t.wired.change(0, first, second, so)));
                    t.sameNet(call);
                }
            }
        }
        Twin t = net(n, bits);
        t.same("better", t.plain.better(0), () -> t.wired.better(0));
        t.sameNet("better");
        for (int seed = -1; seed < 2; seed++) {
            Twin u = net(n, bits);
            int of = seed;
            u.same("cool " + seed, u.plain.cool(0, of, 10, 1004), () -> u.wired.cool(0, of, 10, 1004));
            u.sameNet("cool " + seed);
        }
    }

    private static void growth(int n, int bits) {
        for (int pulls = 1; pulls <= 2; pulls++) {
            Twin t = net(n, bits);
            int by = pulls;
            t.same("grow " + by, t.plain.grow(0, by), () -> t.wired.grow(0, by));
            t.sameNet("grow " + by);
        }
    }
}
