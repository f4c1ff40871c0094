import java.lang.reflect.InvocationTargetException;
import java.lang.reflect.Method;
import java.util.ArrayList;
import java.util.Arrays;
import java.util.HashMap;
import java.util.List;
import java.util.Map;
import java.util.NoSuchElementException;
import java.util.Random;

/** Runs of random calls: WiredNets must answer as PlainNets does, which says the document plainly. */
public final class RandomRunsTest {
    private static final int RUNS = 500;
    private static final int CALLS = 512;
    private static final Map<String, Method> WIRED = new HashMap<>();
    private static final Map<String, Method> PLAIN = new HashMap<>();
    /** The most knots for which the plain one answers soon enough to be asked often. */
    private static final Map<String, Integer> PLAIN_MOST = new HashMap<>();

    private final Random random;
    private final WiredNets wired = new WiredNets();
    private final PlainNets plain = new PlainNets();
    private final List<String> told = new ArrayList<>();
    private int calls = 0;

    private RandomRunsTest(long seed) {
        random = new Random(seed);
    }

    public static void main(String[] args) {
        for (Method method : WiredNets.class.getDeclaredMethods()) {
            if (java.lang.reflect.Modifier.isPublic(method.getModifiers())) {
                WIRED.put(method.getName(), method);
            }
        }
        for (Method method : PlainNets.class.getDeclaredMethods()) {
            if (java.lang.reflect.Modifier.isPublic(method.getModifiers())) {
                PLAIN.put(method.getName(), method);
            }
        }
        PLAIN_MOST.putAll(Map.of("better", 9, "tell", 7, "falls", 14, "grow", 12, "lay", 7, "far", 9, "cool", 14,
            "missing", 14, "heavy", 14, "load", 14));
        for (int run = 0; run < RUNS && Check.failures() == 0; run++) {
            new RandomRunsTest(run).go(run);
        }
        Check.end("RandomRunsTest");
    }

    private void go(int run) {
        while (calls < CALLS && Check.failures() == 0) {
            switch (random.nextInt(10)) {
                case 0:
                    build();
                    break;
                case 1:
                    text();
                    break;
                case 2:
                    both(pick("turned glued copy".split(" ")));
                    break;
                default:
                    both(pick(WIRED.keySet().stream().sorted().toArray(String[]::new)));
            }
        }
        if (Check.failures() != 0) {
            System.out.println("run " + run + ":");
            told.forEach(System.out::println);
        }
    }

    private String pick(String[] names) {
        return names[random.nextInt(names.length)];
    }

    private int size() {
        int luck = random.nextInt(20);
        return luck < 13 ? 1 + random.nextInt(7) : luck < 18 ? 8 + random.nextInt(5) : 13 + random.nextInt(12);
    }

    private void build() {
        int slot = random.nextInt(8);
        int n = size();
        call("net", slot, n, rarely() ? 1 : 2 + random.nextInt(7));
        if (random.nextInt(4) > 0) {
            for (int a = 1; a < n; a++) {
                call("line", slot, a, random.nextInt(3) == 0 ? random.nextInt(a) : a - 1);
            }
        }
        for (int i = random.nextInt(2 * n + 1); i > 0; i--) {
            call("line", slot, random.nextInt(n), random.nextInt(n));
        }
    }

    private void text() {
        if (plain.count(1) > 0 && !rarely()) {
            call("read", random.nextInt(8), 0);
        }
        StringBuilder text = new StringBuilder();
        int n = rarely() ? random.nextInt(30) : size();
        text.append("knots ").append(n).append(" degree ").append(rarely() ? random.nextInt(12) : 1 + random.nextInt(8));
        text.append(random.nextBoolean() ? ";" : " \n; ");
        int clauses = rarely() ? 18 + random.nextInt(6) : random.nextInt(5);
        for (int c = 0; c < clauses; c++) {
            String word = pick("row ring all star off".split(" "));
            text.append(word);
            int many = word.equals("off") ? 2 : rarely() ? random.nextInt(15) : 2 + random.nextInt(3);
            List<Integer> knots = new ArrayList<>();
            for (int k = 0; k < many; k++) {
                int knot = random.nextInt(Math.max(1, n + (rarely() ? 2 : 0)));
                if (!knots.contains(knot) || rarely()) {
                    knots.add(knot);
                }
            }
            for (int knot : knots) {
                text.append(rarely() ? "  " : " ").append(rarely() ? "0" : "").append(knot);
            }
            text.append(";");
        }
        for (int i = random.nextInt(6) == 0 ? 1 + random.nextInt(2) : 0; i > 0; i--) {
            int at = random.nextInt(text.length());
            String noise = pick(new String[] {" ", "\n", ";", "0", "9", "12345", "off", "a", "A", "\u00e9", "\t", ""});
            text.replace(at, at + random.nextInt(2), noise);
        }
        int length = rarely() ? random.nextInt(text.length() + 1) : text.length();
        feed(text.toString());
        call("read", random.nextInt(8), length);
        call("fault");
    }

    private void feed(String text) {
        for (int at = 0; at < text.length(); at += 20) {
            Object[] words = new Object[5];
            for (int i = 0; i < 5; i++) {
                int word = 0;
                for (int k = at + 4 * i; k < at + 4 * i + 4; k++) {
                    word = word << 8 | (k < text.length() ? text.charAt(k) : ' ');
                }
                words[i] = word;
            }
            call("feed", words);
        }
    }

    private boolean rarely() {
        return random.nextInt(15) == 0;
    }

    private int knots(int slot) {
        try {
            return plain.about(slot, 0);
        } catch (NoSuchElementException e) {
            return 0;
        }
    }

    /** A number from least to most, now and then another one. */
    private int about(int least, int most) {
        if (random.nextInt(40) == 0) {
            int[] odd = {least - 1, most + 1, Integer.MIN_VALUE, Integer.MAX_VALUE, -1, 31, 32, 64};
            return odd[random.nextInt(odd.length)];
        }
        return least + random.nextInt(Math.max(1, most - least + 1));
    }

    /** A slot that holds a net small enough for the plain one, mostly. */
    private int slotFor(String name) {
        int slot = about(0, 7);
        for (int tries = 0; tries < 20; tries++) {
            int n = knots(slot);
            boolean heavy = n > PLAIN_MOST.getOrDefault(name, 24);
            if (heavy && random.nextInt(60) != 0 || n == 0 && random.nextInt(10) != 0) {
                slot = about(0, 7);
            }
        }
        return slot;
    }

    private void both(String name) {
        if (name.equals("feed")) {
            call(name, random.nextInt(), 0x6b6e6f74, random.nextInt(), 0x20202020, random.nextInt());
            return;
        }
        if (name.equals("net") && !rarely()) {
            build();
            return;
        }
        if ("seek small bound found fallen laid fault count net turned".contains(name)) {
            call(name, slotless(name));
            return;
        }
        int slot = slotFor(name);
        int n = Math.max(1, knots(slot));
        int lines = n == 1 ? 0 : knots(slot) == 0 ? 0 : plain.about(slot, 2);
        switch (name) {
            case "line": case "off": case "distance": case "apart": case "hop": case "load":
                call(name, slot, about(0, n - 1), about(0, n - 1));
                break;
            case "read":
                call(name, slot, about(0, plain.count(1)));
                break;
            case "glued":
                call(name, about(0, 7), about(0, 1), slot, about(0, 7));
                break;
            case "lineAt":
                call(name, slot, about(0, lines - 1));
                break;
            case "poly":
                call(name, slot, about(0, n));
                break;
            case "above":
                call(name, slot, random.nextBoolean() ? about(-12, 12) : about(-3, 3));
                break;
            case "change":
                int i = about(0, lines - 2);
                call(name, slot, i, rarely() ? about(0, lines) : about(i + 1, lines - 1), random.nextBoolean());
                break;
            case "cool":
                call(name, slot, random.nextInt(), about(0, rarely() ? 500 : 40), about(0, rarely() ? 10000 : 1500));
                break;
            case "falls":
                call(name, slot, about(0, 1), about(0, 2));
                break;
            case "upward":
                call(name, slot, about(0, n - 1), about(0, 1));
                break;
            case "grow":
                call(name, slot, about(1, 2));
                break;
            case "lay":
                call(name, slot, about(1, random.nextBoolean() ? 5 : 24));
                break;
            case "halves": case "locks": case "better": case "missing":
                call(name, slot);
                break;
            default:
                call(name, slot, about(0, Map.of("copy", 7, "about", 4, "far", 5, "walks", 10, "heavy", 2,
                    "tell", n - 1).get(name)));
        }
    }

    private Object[] slotless(String name) {
        int group = about(0, 1);
        int a = about(1, group == 1 ? 6 : 12);
        int b = group == 1 && !rarely() ? 2 : about(1, Math.max(1, 12 / Math.max(1, Math.min(a, 24))));
        switch (name) {
            case "seek":
                // The plain one tries all sets of things.
                return new Object[] {group, a, a > 12 || b > 12 || a * b > 12 ? 25 : b, about(1, 8)};
            case "turned":
                return new Object[] {about(0, 7), group, a, b, moves(group, a, b)};
            case "small":
                return new Object[] {Math.min(5, about(1, 5)), about(1, 5), about(0, 5)};
            case "bound":
                return new Object[] {about(1, 8), about(0, 24)};
            case "found":
                return new Object[] {about(0, 3)};
            case "fallen":
                return new Object[] {about(0, 1)};
            case "laid":
                return new Object[] {about(0, 7)};
            case "count":
                return new Object[] {about(0, 1)};
            case "net":
                return new Object[] {about(0, 7), rarely() ? about(1, 24) : size(), about(1, 8)};
            default:
                return new Object[0];
        }
    }

    private int moves(int group, int a, int b) {
        if (rarely() || a < 1 || b < 1 || a > 24 || b > 24 || a * b > 24) {
            return random.nextInt();
        }
        int moves = 0;
        for (int i = 1 + random.nextInt(4); i > 0; i--) {
            int s = random.nextInt(a * b);
            int back = group == 1 && s >= a ? s : (a - s % a) % a + a * ((b - s / a) % b);
            moves |= rarely() ? 1 << s : 1 << s | 1 << back;
        }
        return rarely() ? moves : moves & ~1;
    }

    private void call(String name, Object... args) {
        if (calls >= CALLS || Check.failures() != 0) {
            return;
        }
        calls++;
        long want = answer(PLAIN.get(name), plain, args);
        long got = answer(WIRED.get(name), wired, args);
        String what = name + Arrays.toString(args);
        told.add(what + " " + Check.told(got));
        Check.same(what, want, got);
    }

    private static long answer(Method method, Object on, Object[] args) {
        try {
            Object answer = method.invoke(on, args);
            if (answer instanceof Boolean) {
                return (Boolean) answer ? 1 : 0;
            }
            return ((Number) answer).longValue();
        } catch (InvocationTargetException e) {
            Throwable cause = e.getCause();
            if (cause.getClass() == NoSuchElementException.class) {
                return Check.NO_SUCH;
            }
            if (cause.getClass() == IllegalArgumentException.class) {
                return Check.ILLEGAL;
            }
            throw new IllegalStateException(method.getName() + Arrays.toString(args), cause);
        } catch (IllegalAccessException e) {
            throw new IllegalStateException(e);
        }
    }
}
