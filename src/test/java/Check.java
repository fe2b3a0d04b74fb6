/** Counts the answers that are not as due; each test ends with exit code 1 if there was one. */
final class Check {
    private static int made = 0;
    private static int wrong = 0;

    private Check() {
    }

    static void due(String call, long got, long want) {
        made++;
        if (got != want) {
            wrong++;
            System.out.println(call + " answered " + got + ", due is " + want);
        }
    }

    static void holds(String what, boolean is) {
        due(what, is ? 1 : 0, 1);
    }

    static void end() {
        System.out.println(made + " answers looked at, " + wrong + " not as due");
        if (wrong != 0 || made == 0) {
            System.exit(1);
        }
    }

    /** Feeds a text to the tape, by fours. */
    static int feed(StonesAsked x, String text) {
        int last = 0;
        for (int i = 0; i < text.length(); i += 4) {
            int n = Math.min(4, text.length() - i);
            int v = 0;
            for (int j = 0; j < n; j++) {
                v |= text.charAt(i + j) << (8 * j);
            }
            last = x.feed(n, v);
        }
        return last;
    }

    static int ask(StonesAsked x, String text) {
        feed(x, text);
        return x.ask();
    }

    /** Things whose field 0 is as told, and fields 1 to 3 are 0. */
    static StonesAsked withKeys(int... keys) {
        StonesAsked x = new StonesAsked();
        for (int key : keys) {
            x.put(key, 0, 0, 0);
        }
        return x;
    }

    static String names(StonesAsked x, int stone) {
        StringBuilder text = new StringBuilder();
        for (int i = 0; x.nameAt(stone, i) >= 0; i++) {
            text.append(i == 0 ? "" : " ").append(x.nameAt(stone, i));
        }
        return text.toString();
    }

    static void names(String call, StonesAsked x, int stone, String want) {
        String got = names(x, stone);
        if (!got.equals(want)) {
            System.out.println(call + ": names are " + got + ", due are " + want);
        }
        holds(call, got.equals(want));
    }
}
