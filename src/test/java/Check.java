import java.util.NoSuchElementException;

/** Counts and prints answers that are not as due; shared by all tests of the project. */
final class Check {
    /** What stands for an exception where answers are compared as numbers. */
    static final long NO_SUCH = Long.MIN_VALUE + 1;
    static final long ILLEGAL = Long.MIN_VALUE + 2;

    /** A call of the class; a boolean answer counts 1 or 0. */
    interface Call {
        long answer();
    }

    private static int wrong = 0;
    private static int made = 0;

    private Check() {
    }

    static void due(String what, long want, Call call) {
        same(what, want, answerOf(call));
    }

    static void noSuch(String what, Call call) {
        due(what, NO_SUCH, call);
    }

    static void illegal(String what, Call call) {
        due(what, ILLEGAL, call);
    }

    static void same(String what, long want, long got) {
        made++;
        if (want != got) {
            wrong++;
            System.out.println(what + " answered " + told(got) + ", due is " + told(want));
        }
    }

    static void text(String what, String want, String got) {
        made++;
        if (!want.equals(got)) {
            wrong++;
            System.out.println(what + " shows\n" + got + "\ndue is\n" + want);
        }
    }

    static void hold(String what, boolean holds) {
        same(what, 1, holds ? 1 : 0);
    }

    /** Any other exception than the document's two goes through, and fails the test. */
    static long answerOf(Call call) {
        try {
            return call.answer();
        } catch (NoSuchElementException e) {
            return e.getClass() == NoSuchElementException.class ? NO_SUCH : 0;
        } catch (IllegalArgumentException e) {
            return e.getClass() == IllegalArgumentException.class ? ILLEGAL : 0;
        }
    }

    static long bit(boolean answer) {
        return answer ? 1 : 0;
    }

    static int failures() {
        return wrong;
    }

    static String told(long answer) {
        if (answer == NO_SUCH) {
            return "throws.NoSuchElementException";
        }
        return answer == ILLEGAL ? "throws.IllegalArgumentException" : Long.toString(answer);
    }

    /** Ends the test: with exit code 1 if an answer was wrong. */
    static void end(String test) {
        System.out.println(test + ": " + made + " checks, " + wrong + " wrong");
        if (wrong != 0) {
            System.exit(1);
        }
    }

    /** Feeds a text as whole twenties of bytes, blanks behind it; answers its length. */
    static int feed(WiredNets nets, String text) {
        for (int at = 0; at < text.length(); at += 20) {
            int[] words = new int[5];
            for (int i = 0; i < 20; i++) {
                int sign = at + i < text.length() ? text.charAt(at + i) : ' ';
                words[i / 4] = words[i / 4] << 8 | sign;
            }
            nets.feed(words[0], words[1], words[2], words[3], words[4]);
        }
        return text.length();
    }

    /** Reads a text, which must be right, into a slot. */
    static void lay(WiredNets nets, int slot, String text) {
        int length = feed(nets, text);
        same("read of " + text, 0, nets.read(slot, length));
    }
}
