import java.util.ArrayList;
import java.util.List;

/** What a call answers hangs on the net alone, not on what was asked before: every call behind every other one. */
public final class AfterAnotherTest {
    private static final int COPY = 7;
    private static final String[] NETS = {"knots 1 degree 1;", "knots 5 degree 3;row 0 3 1 4 2;", "knots 7 degree 3;ring 6 0 5 1 4 2;",
        "knots 9 degree 4;ring 0 1 2 3 4 5 6 7 8;row 0 4;row 2 7;row 1 5;", "knots 8 degree 7;all 0 1 2 3 4 5 6 7;",
        "knots 14 degree 4;ring 13 11 9 7 5 3 1 0 2 4 6 8;row 8 10 12 13;row 0 13;row 1 12;row 9 2;"};

    /** All that a call tells of the net in a slot. */
    private interface Asked {
        String of(WiredNets x, int slot);
    }

    private static final List<String> NAMES = new ArrayList<>();
    private static final List<Asked> CALLS = new ArrayList<>();

    private AfterAnotherTest() {
    }

    public static void main(String[] args) {
        askingCalls();
        keepingCalls();
        changingCalls();
        String[][] alone = new String[CALLS.size()][NETS.length];
        for (int call = 0; call < CALLS.size(); call++) {
            for (int net = 0; net < NETS.length; net++) {
                alone[call][net] = CALLS.get(call).of(made(), net);
            }
        }
        for (int call = 0; call < CALLS.size(); call++) {
            for (int net = 0; net < NETS.length; net++) {
                behind(call, net, alone);
            }
        }
        Check.end("AfterAnotherTest");
    }

    private static WiredNets made() {
        WiredNets x = new WiredNets();
        for (int net = 0; net < NETS.length; net++) {
            int length = Check.feed(x, NETS[net]);
            if (x.read(net, length) != 0) {
                Check.text("fault at " + x.fault(), "", NETS[net]);
            }
        }
        return x;
    }

    private static void behind(int before, int on, String[][] alone) {
        for (int call = 0; call < CALLS.size(); call++) {
            WiredNets x = made();
            CALLS.get(before).of(x, on);
            for (int net = NETS.length - 1; net >= 0; net -= 2) {
                int slot = (net + before + on) % NETS.length;
                Check.text(NAMES.get(call) + " of net " + slot + " behind " + NAMES.get(before) + " of net " + on,
                    alone[call][slot], CALLS.get(call).of(x, slot));
            }
        }
    }

    private static void call(String name, Asked asked) {
        NAMES.add(name);
        CALLS.add(asked);
    }

    private static String told(Check.Call call) {
        return Check.told(Check.answerOf(call));
    }

    private static void askingCalls() {
        for (int what = 0; what < 6; what++) {
            int of = what;
            call("far " + of, (x, slot) -> told(() -> x.far(slot, of)));
        }
        call("distance", (x, slot) -> told(() -> x.distance(slot, 0, x.about(slot, 0) - 1)));
        call("apart", (x, slot) -> told(() -> x.apart(slot, 0, x.about(slot, 0) - 1)));
        call("poly", (x, slot) -> told(() -> x.poly(slot, 0)) + " " + told(() -> x.poly(slot, 1)));
        call("above", (x, slot) -> told(() -> x.above(slot, 0)));
        call("walks 3", (x, slot) -> told(() -> x.walks(slot, 3)));
        call("walks 10", (x, slot) -> told(() -> x.walks(slot, 10)));
        call("halves", (x, slot) -> told(() -> x.halves(slot)));
        call("hop", (x, slot) -> told(() -> x.hop(slot, 0, x.about(slot, 0) - 1)));
        call("locks", (x, slot) -> told(() -> Check.bit(x.locks(slot))));
        call("load", (x, slot) -> told(() -> x.load(slot, 0, 1)) + " " + told(() -> x.load(slot, 2, 1)));
        for (int what = 0; what < 3; what++) {
            int of = what;
            call("heavy " + of, (x, slot) -> told(() -> x.heavy(slot, of)));
        }
        call("upward 0", (x, slot) -> told(() -> x.upward(slot, 0, 0)));
        call("upward 1", (x, slot) -> told(() -> x.upward(slot, x.about(slot, 0) - 1, 1)));
        call("tell", (x, slot) -> told(() -> x.tell(slot, 0)));
        call("missing", (x, slot) -> told(() -> x.missing(slot)));
        int[][] groups = {{0, 1, 1, 1}, {0, 3, 3, 3}, {1, 4, 2, 3}, {0, 2, 6, 5}, {0, 7, 1, 6}, {1, 6, 2, 2}};
        call("seek", (x, slot) -> {
            int[] g = groups[slot];
            return told(() -> x.seek(g[0], g[1], g[2], g[3]));
        });
    }

    private static void keepingCalls() {
        for (int kind = 0; kind < 2; kind++) {
            for (int many = 0; many < 3; many++) {
                int of = kind;
                int fall = many;
                call("falls " + of + " " + fall, (x, slot) -> {
                    String worst = told(() -> x.falls(slot, of, fall));
                    boolean kept = !worst.equals("-1");
                    return worst + (kept ? " " + told(() -> x.fallen(0)) + " " + told(() -> x.fallen(1)) : "");
                });
            }
        }
        for (int w : new int[] {1, 3}) {
            call("lay " + w, (x, slot) -> {
                StringBuilder out = new StringBuilder(told(() -> x.lay(slot, w)));
                for (int knot = 0; knot < 15; knot++) {
                    int at = knot;
                    out.append(' ').append(told(() -> x.laid(at)));
                }
                return out.toString();
            });
        }
        int[][] small = {{1, 1, 0}, {4, 3, 2}, {3, 2, 1}, {2, 1, 1}, {4, 1, 3}, {5, 2, 4}};
        call("small", (x, slot) -> told(() -> x.small(small[slot][0], small[slot][1], small[slot][2]))
            + " " + told(() -> x.found(1)) + " " + told(() -> x.found(2)) + " " + told(() -> x.found(3)));
    }

    /** These work on a copy, so that the net itself stays. */
    private static void changingCalls() {
        call("better", (x, slot) -> changed(x, slot, () -> x.better(COPY)));
        call("cool", (x, slot) -> changed(x, slot, () -> x.cool(COPY, slot, 20, 1005)));
        call("grow 1", (x, slot) -> changed(x, slot, () -> x.grow(COPY, 1)));
        call("grow 2", (x, slot) -> changed(x, slot, () -> x.grow(COPY, 2)));
        call("change", (x, slot) -> changed(x, slot, () -> Check.bit(x.change(COPY, 0, 3, true))));
        call("line", (x, slot) -> changed(x, slot, () -> Check.bit(x.line(COPY, 0, 2))));
        call("glued", (x, slot) -> changed(x, slot, () -> Check.bit(x.glued(COPY, slot % 2, slot, 0))));
        call("turned", (x, slot) -> changed(x, slot, () -> Check.bit(x.turned(COPY, slot % 2, 2 + slot, 2, 1 << 2 + slot))));
        call("read", (x, slot) -> {
            int length = Check.feed(x, NETS[slot] + (slot % 2 == 0 ? "" : "row 0 1;row 1 0;"));
            return changed(x, 1, () -> x.read(COPY, length)) + " " + x.fault() + " " + x.count(1);
        });
        call("net", (x, slot) -> changed(x, slot, () -> Check.bit(x.net(COPY, 4 * slot, 2))));
    }

    private static String changed(WiredNets x, int slot, Check.Call call) {
        x.copy(slot, COPY);
        return told(call) + " " + Seen.slot(x, COPY);
    }
}
