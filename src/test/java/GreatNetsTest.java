/** Nets of 13 to 24 knots, which random runs seldom ask for much, against the plain reading of the document. */
public final class GreatNetsTest {
    private GreatNetsTest() {
    }

    public static void main(String[] args) {
        for (int n = 13; n <= 24; n++) {
            for (int degree = 2; degree <= 8; degree += 3) {
                asking(Twin.chosen(n, degree, degree * n / 3, 1000 * n + degree), n);
            }
            harming(Twin.chosen(n, 4, n + n / 3, 2000 + n));
            changing(n);
        }
        asking(Twin.turned(0, 24, 1, 0b111100000000000000011110), 24);
        asking(Twin.turned(1, 12, 2, 0b111000000000000), 24);
        asking(Twin.turned(0, 4, 6, 1 << 1 | 1 << 3 | 1 << 4 | 1 << 20), 24);
        Check.end("GreatNetsTest");
    }

    private static void asking(Twin t, int n) {
        for (int what = 0; what < 6; what++) {
            int of = what;
            t.same("far " + of, t.plain.far(0, of), () -> t.wired.far(0, of));
        }
        for (int a = 0; a < n; a += 5) {
            int from = a;
            for (int b = 0; b < n; b++) {
                int to = b;
                t.same("distance " + a + " " + b, t.plain.distance(0, from, to), () -> t.wired.distance(0, from, to));
                t.same("apart " + a + " " + b, t.plain.apart(0, from, to), () -> t.wired.apart(0, from, to));
            }
            t.same("upward " + a + " 0", t.plain.upward(0, from, 0), () -> t.wired.upward(0, from, 0));
            t.same("upward " + a + " 1", t.plain.upward(0, from, 1), () -> t.wired.upward(0, from, 1));
        }
        for (int k = 0; k <= 10; k++) {
            int steps = k;
            t.same("walks " + k, t.plain.walks(0, steps), () -> t.wired.walks(0, steps));
        }
        for (int what = 0; what < 3; what++) {
            int of = what;
            t.same("heavy " + of, t.plain.heavy(0, of), () -> t.wired.heavy(0, of));
        }
        t.same("locks", Check.bit(t.plain.locks(0)), () -> Check.bit(t.wired.locks(0)));
        t.same("missing", t.plain.missing(0), () -> t.wired.missing(0));
        t.sameNet("asking");
    }

    private static void harming(Twin t) {
        for (int kind = 0; kind < 2; kind++) {
            for (int many = 0; many < 3; many++) {
                int of = kind;
                int fall = many;
                t.same("falls " + of + " " + fall, t.plain.falls(0, of, fall), () -> t.wired.falls(0, of, fall));
                for (int i = 0; i < 3; i++) {
                    int at = i;
                    t.same("fallen " + at, Check.answerOf(() -> t.plain.fallen(at)), () -> t.wired.fallen(at));
                }
            }
        }
        t.sameNet("falls");
    }

    private static void changing(int n) {
        Twin cooled = Twin.chosen(n, 4, n + n / 2, 3000 + n);
        int seed = n * 1234567;
        cooled.same("cool", cooled.plain.cool(0, seed, 80, 900), () -> cooled.wired.cool(0, seed, 80, 900));
        cooled.sameNet("cool");
        for (int pulls = 1; pulls <= 2; pulls++) {
            int by = pulls;
            Twin grown = Twin.chosen(n, 3, n + 2, 4000 + n);
            grown.same("grow " + by, grown.plain.grow(0, by), () -> grown.wired.grow(0, by));
            grown.sameNet("grow " + by);
        }
    }
}
