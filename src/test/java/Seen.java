import java.util.LinkedHashMap;
import java.util.Map;
import java.util.NoSuchElementException;
import java.util.TreeSet;

/**
 * What a caller can see of an object, so that two moments can be compared: one entry for each slot, and one for each
 * thing that a call keeps. Looking takes calls, too: an object is good for 512 of them.
 */
final class Seen {
    private Seen() {
    }

    static Map<String, String> of(WiredNets x) {
        Map<String, String> seen = new LinkedHashMap<>();
        for (int slot = 0; slot < 8; slot++) {
            seen.put("slot " + slot, slot(x, slot));
        }
        seen.put("nets", Check.told(Check.answerOf(() -> x.count(0))));
        seen.put("tape", Check.told(Check.answerOf(() -> x.count(1))));
        seen.put("fault", Check.told(Check.answerOf(() -> x.fault())));
        seen.put("found", row(4, x::found));
        seen.put("fallen", row(3, x::fallen));
        seen.put("laid", row(25, x::laid));
        return seen;
    }

    /** A net as 'knots degree: lines', each line as 'a-b', in the order of their numbers. */
    static String slot(WiredNets x, int slot) {
        StringBuilder out = new StringBuilder();
        try {
            out.append(x.about(slot, 0)).append(' ').append(x.about(slot, 1)).append(':');
            int lines = x.about(slot, 2);
            for (int i = 0; i < lines; i++) {
                int line = x.lineAt(slot, i);
                out.append(' ').append(line / 32).append('-').append(line % 32);
            }
        } catch (NoSuchElementException e) {
            out.append("nothing");
        }
        return out.toString();
    }

    /** The names of all that is not the same any more. */
    static String changes(Map<String, String> before, Map<String, String> after) {
        TreeSet<String> changed = new TreeSet<>();
        for (String name : before.keySet()) {
            if (!before.get(name).equals(after.get(name))) {
                changed.add(name);
            }
        }
        return String.join(", ", changed);
    }

    private interface Kept {
        int at(int i);
    }

    /** Answers from 0 on, as far as there are some. */
    private static String row(int most, Kept kept) {
        StringBuilder out = new StringBuilder();
        for (int i = 0; i < most; i++) {
            int at = i;
            long answer = Check.answerOf(() -> kept.at(at));
            if (answer == Check.NO_SUCH) {
                return out.append("end").toString();
            }
            out.append(Check.told(answer)).append(' ');
        }
        return out.toString();
    }
}
