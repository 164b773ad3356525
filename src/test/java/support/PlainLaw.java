import java.util.HashMap;
import java.util.Map;
import java.util.TreeSet;
import java.util.function.BiFunction;

/**
 * The law's grammar, written down a second time and in another way: every rule answers all places at which
 * it may end, and a fault is found by trying to complete each beginning of the text.
 */
final class PlainLaw {
    private final String text;
    private final Map<String, TreeSet<Integer>> seen = new HashMap<>();

    private PlainLaw(String text) {
        this.text = text;
    }

    static boolean isText(String text) {
        return new PlainLaw(text).lines().contains(text.length());
    }

    /** -1 if the text is fine. */
    static int fault(String text) {
        if (isText(text)) {
            return -1;
        }
        for (int i = 0; i < text.length(); i++) {
            if (!goesOn(text.substring(0, i + 1))) {
                return i;
            }
        }
        return text.length();
    }

    private static boolean goesOn(String beginning) {
        for (int closed = 0; closed <= 6; closed++) {
            String end = ")".repeat(closed);
            if (isText(beginning + end) || isText(beginning + "a" + end)) {
                return true;
            }
        }
        return false;
    }

    private boolean at(int place, String signs) {
        return place < text.length() && signs.indexOf(text.charAt(place)) >= 0;
    }

    private TreeSet<Integer> lines() {
        TreeSet<Integer> ends = new TreeSet<>();
        TreeSet<Integer> starts = new TreeSet<>();
        starts.add(0);
        while (!starts.isEmpty()) {
            int start = starts.pollFirst();
            for (int end : line(start)) {
                ends.add(end);
                if (at(end, ";")) {
                    starts.add(end + 1);
                }
            }
        }
        return ends;
    }

    private TreeSet<Integer> line(int start) {
        TreeSet<Integer> ends = new TreeSet<>();
        for (int end : e(start, 0)) {
            ends.add(end);
            if (at(end, "?")) {
                ends.addAll(e(end + 1, 0));
            }
        }
        return ends;
    }

    private TreeSet<Integer> many(String rule, int start, int open, String signs, BiFunction<Integer, Integer, TreeSet<Integer>> part) {
        String key = rule + start + "/" + open;
        if (seen.containsKey(key)) {
            return seen.get(key);
        }
        TreeSet<Integer> ends = new TreeSet<>(part.apply(start, open));
        TreeSet<Integer> left = new TreeSet<>(ends);
        while (!left.isEmpty()) {
            int end = left.pollFirst();
            if (at(end, signs)) {
                for (int further : part.apply(end + 1, open)) {
                    if (ends.add(further)) {
                        left.add(further);
                    }
                }
            }
        }
        seen.put(key, ends);
        return ends;
    }

    private TreeSet<Integer> e(int start, int open) {
        return many("e", start, open, "|", this::a);
    }

    private TreeSet<Integer> a(int start, int open) {
        return many("a", start, open, "&", this::b);
    }

    private TreeSet<Integer> b(int start, int open) {
        TreeSet<Integer> ends = new TreeSet<>();
        for (int end : s(start, open)) {
            ends.add(end);
            if (at(end, "<=>")) {
                ends.addAll(s(end + 1, open));
            }
        }
        return ends;
    }

    private TreeSet<Integer> s(int start, int open) {
        return many("s", start, open, "+-", this::p);
    }

    private TreeSet<Integer> p(int start, int open) {
        return many("p", start, open, "*/%", this::o);
    }

    private TreeSet<Integer> o(int start, int open) {
        TreeSet<Integer> ends = new TreeSet<>();
        for (int k = 0; k < 4 && at(start + k, "0123456789"); k++) {
            ends.add(start + k + 1);
        }
        if (at(start, "awifmn")) {
            ends.add(start + 1);
        }
        if (at(start, "!-") && open < 6) {
            ends.addAll(o(start + 1, open + 1));
        }
        if (at(start, "(") && open < 6) {
            for (int end : e(start + 1, open + 1)) {
                if (at(end, ")")) {
                    ends.add(end + 1);
                }
            }
        }
        return ends;
    }

    /** What a good text gives, not yet held within anything. */
    static int worth(String text, Map<Character, Integer> names) {
        for (String line : text.split(";")) {
            String[] parts = line.split("\\?");
            if (parts.length == 1) {
                return value(parts[0], names);
            }
            if (value(parts[0], names) != 0) {
                return value(parts[1], names);
            }
        }
        return 0;
    }

    /** Splits at the last sign of the weakest kind that stands between two whole parts. */
    private static int value(String text, Map<Character, Integer> names) {
        for (String signs : new String[] {"|", "&", "<=>", "+-", "*/%"}) {
            int at = lastBetween(text, signs);
            if (at >= 0) {
                return joined(text.charAt(at), value(text.substring(0, at), names), value(text.substring(at + 1), names));
            }
        }
        char c = text.charAt(0);
        if (c == '!') {
            return value(text.substring(1), names) == 0 ? 1 : 0;
        }
        if (c == '-') {
            return -value(text.substring(1), names);
        }
        if (c == '(') {
            return value(text.substring(1, text.length() - 1), names);
        }
        return names.containsKey(c) ? names.get(c) : Integer.parseInt(text);
    }

    private static int lastBetween(String text, String signs) {
        int open = 0;
        for (int k = text.length() - 1; k > 0; k--) {
            char c = text.charAt(k);
            open += c == ')' ? 1 : c == '(' ? -1 : 0;
            boolean behindPart = Character.isLetterOrDigit(text.charAt(k - 1)) || text.charAt(k - 1) == ')';
            if (open == 0 && behindPart && signs.indexOf(c) >= 0) {
                return k;
            }
        }
        return -1;
    }

    private static int joined(char sign, int left, int right) {
        switch (sign) {
            case '|': return left != 0 || right != 0 ? 1 : 0;
            case '&': return left != 0 && right != 0 ? 1 : 0;
            case '<': return left < right ? 1 : 0;
            case '=': return left == right ? 1 : 0;
            case '>': return left > right ? 1 : 0;
            case '+': return left + right;
            case '-': return left - right;
            case '*': return left * right;
            case '/': return right == 0 ? 0 : (int) ((long) left / right);
            default: return right == 0 ? 0 : (int) ((long) left % right);
        }
    }
}
