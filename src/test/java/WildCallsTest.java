import java.lang.reflect.InvocationTargetException;
import java.lang.reflect.Method;
import java.lang.reflect.Modifier;
import java.util.ArrayList;
import java.util.Arrays;
import java.util.List;
import java.util.NoSuchElementException;
import java.util.Random;

/** Runs of calls whose arguments are mostly wrong: only what the document says is thrown, and nothing else changes. */
public final class WildCallsTest {
    private static final int[] WILD = {Integer.MIN_VALUE, Integer.MAX_VALUE, Integer.MIN_VALUE + 1, -1, -2, -12, -13, -24, 31,
        32, 33, 63, 64, 255, 256, 400, 401, 500, 501, 10000, 10001, 65536, 1 << 24, 1 << 30, -65536};

    private final Random random;
    private final WiredNets wired = new WiredNets();
    private final PlainNets plain = new PlainNets();
    private final List<String> told = new ArrayList<>();

    private WildCallsTest(long seed) {
        random = new Random(seed);
    }

    public static void main(String[] args) throws ReflectiveOperationException {
        for (int run = 0; run < 200 && Check.failures() == 0; run++) {
            new WildCallsTest(run).go();
        }
        Check.end("WildCallsTest");
    }

    private void go() throws ReflectiveOperationException {
        List<Method> methods = new ArrayList<>();
        for (Method method : WiredNets.class.getDeclaredMethods()) {
            if (Modifier.isPublic(method.getModifiers())) {
                methods.add(method);
            }
        }
        methods.sort((a, b) -> a.getName().compareTo(b.getName()));
        for (int call = 0; call < 512 && Check.failures() == 0; call++) {
            both(methods.get(random.nextInt(methods.size())));
        }
        if (Check.failures() != 0) {
            told.forEach(System.out::println);
        }
    }

    private int number() {
        switch (random.nextInt(6)) {
            case 0:
                return WILD[random.nextInt(WILD.length)];
            case 1:
                return random.nextInt(28);
            default:
                return random.nextInt(9);
        }
    }

    private void both(Method method) throws ReflectiveOperationException {
        Class<?>[] types = method.getParameterTypes();
        Object[] args = new Object[types.length];
        for (int i = 0; i < args.length; i++) {
            if (types[i] == int.class) {
                args[i] = number();
            } else {
                args[i] = random.nextBoolean();
            }
        }
        if (isSlow(method.getName(), args)) {
            return;
        }
        Method other = PlainNets.class.getMethod(method.getName(), types);
        long want = answer(other, plain, args);
        long got = answer(method, wired, args);
        String what = method.getName() + Arrays.toString(args);
        told.add(what + " " + Check.told(got));
        Check.same(what, want, got);
    }

    /** What the plain one would take too long for. */
    private boolean isSlow(String name, Object[] args) {
        switch (name) {
            case "seek":
                int a = (Integer) args[1];
                int b = (Integer) args[2];
                return a > 0 && b > 0 && a <= 24 && b <= 24 && a * b > 8 && a * b <= 24;
            case "small":
                return (Integer) args[0] == 5 || (Integer) args[0] == 6;
            case "lay": case "tell":
                return Check.answerOf(() -> plain.about((Integer) args[0], 0)) == 8;
            default:
                return false;
        }
    }

    private static long answer(Method method, Object on, Object[] args) throws ReflectiveOperationException {
        try {
            Object answer = method.invoke(on, args);
            return answer instanceof Boolean ? Check.bit((Boolean) answer) : ((Number) answer).longValue();
        } catch (InvocationTargetException e) {
            Class<?> thrown = e.getCause().getClass();
            if (thrown == NoSuchElementException.class) {
                return Check.NO_SUCH;
            }
            if (thrown == IllegalArgumentException.class) {
                return Check.ILLEGAL;
            }
            throw e;
        }
    }
}
