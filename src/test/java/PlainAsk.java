import java.util.List;
import java.util.regex.Pattern;

/** An ask written anew from the document, read by a pattern. */
final class PlainAsk {
    private static final Pattern FORM =
            Pattern.compile("([0-3][=<>](a|b|[0-9][0-9])(&[0-3][=<>](a|b|[0-9][0-9]))*)?:(n|[mxs][0-3])");
    private final String[] conditions;
    final char out;
    final int outField;

    PlainAsk(String text) {
        int colon = text.indexOf(':');
        conditions = colon == 0 ? new String[0] : text.substring(0, colon).split("&");
        out = text.charAt(colon + 1);
        outField = out == 'n' ? 0 : text.charAt(colon + 2) - '0';
    }

    /** The first place with which no ask goes on; -1 if it is an ask; the length if it ends too early. */
    static int fault(String text) {
        for (int i = 0; i <= text.length(); i++) {
            java.util.regex.Matcher m = FORM.matcher(text.substring(0, i));
            boolean whole = m.matches();
            if (!whole && !m.hitEnd()) {
                return i - 1;
            }
            if (i == text.length()) {
                return whole ? -1 : i;
            }
        }
        throw new IllegalStateException();
    }

    int size() {
        return conditions.length;
    }

    private static int value(String c, int a, int b) {
        String v = c.substring(2);
        return v.equals("a") ? a : v.equals("b") ? b : Integer.parseInt(v);
    }

    private static boolean about(String c, int key) {
        return c.charAt(0) - '0' == key;
    }

    int least(int key, int a, int b) {
        int least = 0;
        for (String c : conditions) {
            if (about(c, key) && c.charAt(1) != '<') {
                least = Math.max(least, value(c, a, b) + (c.charAt(1) == '>' ? 1 : 0));
            }
        }
        return least;
    }

    int most(int key, int a, int b) {
        int most = 99;
        for (String c : conditions) {
            if (about(c, key) && c.charAt(1) != '>') {
                most = Math.min(most, value(c, a, b) - (c.charAt(1) == '<' ? 1 : 0));
            }
        }
        return most;
    }

    int firstEqual(int key, int a, int b) {
        for (String c : conditions) {
            if (about(c, key) && c.charAt(1) == '=') {
                return value(c, a, b);
            }
        }
        return -1;
    }

    boolean someAbout(int key) {
        for (String c : conditions) {
            if (about(c, key)) {
                return true;
            }
        }
        return false;
    }

    boolean allAbout(int key) {
        for (String c : conditions) {
            if (!about(c, key)) {
                return false;
            }
        }
        return true;
    }

    boolean isCountOf(int key) {
        return out == 'n' && conditions.length == 1 && firstEqual(key, 0, 0) >= 0;
    }

    private boolean holds(int[] fields, int a, int b) {
        for (String c : conditions) {
            int sign = Integer.compare(fields[c.charAt(0) - '0'], value(c, a, b));
            if (sign != "<=>".indexOf(c.charAt(1)) - 1) {
                return false;
            }
        }
        return true;
    }

    int over(List<int[]> things, List<Integer> seen, int a, int b) {
        int count = 0;
        int sum = 0;
        int least = -1;
        int greatest = -1;
        for (int thing : seen.stream().sorted().toList()) {
            int[] fields = things.get(thing);
            if (!holds(fields, a, b)) {
                continue;
            }
            count++;
            sum += fields[outField];
            least = least < 0 || fields[outField] < things.get(least)[outField] ? thing : least;
            greatest = greatest < 0 || fields[outField] > things.get(greatest)[outField] ? thing : greatest;
        }
        return out == 'n' ? count : out == 's' ? sum : out == 'm' ? least : greatest;
    }

    int price(int kind, int key, int n) {
        int levels = Integer.toBinaryString(n).length();
        boolean equal = firstEqual(key, 0, 0) >= 0;
        switch (kind) {
            case 0: return -2;
            case 1: return n;
            case 3: return out == 'm' && outField == key && conditions.length == 0 ? 1 : n;
            case 4: return equal ? n / 8 + 1 : n;
            case 6: return isCountOf(key) ? 2 : -2;
            default:
        }
        if (kind == 7 && allAbout(key) && (out == 'n' || out == 's' && outField == key)) {
            return 2 * levels;
        }
        return equal ? levels + 2 : someAbout(key) ? levels + n / 4 + 1 : n + levels;
    }
}
