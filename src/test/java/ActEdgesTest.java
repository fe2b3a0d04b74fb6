/** Terms 6, acts and their trace, promises 33 and 34 and count(6): a test for each sentence that names an edge. */
public final class ActEdgesTest {
    private static final int MIN = Integer.MIN_VALUE, MAX = Integer.MAX_VALUE;
    private static final int FINDS = 0, MENDS = 1, KEEPS = 2, TELLS = 3;

    public static void main(String[] args) {
        findsWraps();
        mendsWraps();
        keepsAtItsEdges();
        tellsWraps();
        bitsWrap();
        sumsWrap();
        edgesOfAllKinds();
        actsOfTen();
        noStoneNoAct();
        traceAtItsEdges();
        traceOfTheLatest();
        actsChangeNothingElse();
        longestTrace();
        Check.end();
    }

    /** Stone 0 of a kind by a key. */
    private static StonesAsked with(int kind, int key) {
        StonesAsked x = new StonesAsked();
        x.stone(kind, key);
        return x;
    }

    /** Nine stones of KIND 0, and behind them stone 9. */
    private static StonesAsked ninth(int kind, int key) {
        StonesAsked x = new StonesAsked();
        for (int i = 0; i < 9; i++) {
            x.stone(0, 0);
        }
        x.stone(kind, key);
        return x;
    }

    /** "x (an int that wraps)": x + n, + k, * 3. */
    private static void findsWraps() {
        Check.due("STONE 0", with(0, 3).act(0, FINDS, MAX), MAX);
        Check.due("STONE 9", ninth(0, 3).act(9, FINDS, MAX), MIN + 8);
        Check.due("STONE 9, just not", ninth(0, 3).act(9, FINDS, MAX - 9), MAX);
        Check.due("STONE 9, just", ninth(0, 3).act(9, FINDS, MAX - 8), MIN);
        Check.due("ROW by 3", with(1, 3).act(0, FINDS, MAX), MIN + 2);
        Check.due("ROW by 3, just not", with(1, 3).act(0, FINDS, MAX - 3), MAX);
        Check.due("ROW by 0", with(1, 0).act(0, FINDS, MIN), MIN);
        Check.due("TABLE", with(4, 3).act(0, FINDS, MAX), MAX - 2);
        Check.due("TABLE", with(4, 3).act(0, FINDS, MIN), MIN);
        Check.due("TABLE, just", with(4, 3).act(0, FINDS, 715827883), MIN + 1);
        Check.due("TABLE, just not", with(4, 3).act(0, FINDS, 715827882), MAX - 1);
    }

    /** finds(x) * 2, - 1. */
    private static void mendsWraps() {
        Check.due("STONE", with(0, 0).act(0, MENDS, 1073741823), MAX - 1);
        Check.due("STONE", with(0, 0).act(0, MENDS, 1073741824), MIN);
        Check.due("STONE", with(0, 0).act(0, MENDS, MIN), 0);
        Check.due("STONE", with(0, 0).act(0, MENDS, MAX), -2);
        Check.due("SORTED", with(2, 0).act(0, MENDS, 1073741824), MAX);
        Check.due("SORTED", with(2, 0).act(0, MENDS, MIN), -1);
        Check.due("SORTED by 3", with(2, 3).act(0, MENDS, -3), -1);
    }

    /** x ^ n, with sign and without. */
    private static void keepsAtItsEdges() {
        Check.due("STONE 0", with(0, 0).act(0, KEEPS, MIN), MIN);
        Check.due("STONE 9", ninth(0, 0).act(9, KEEPS, MIN), MIN + 9);
        Check.due("STONE 9", ninth(0, 0).act(9, KEEPS, -1), -10);
        Check.due("STONE 9", ninth(0, 0).act(9, KEEPS, 9), 0);
        Check.due("HEAP 9 by 3", ninth(3, 3).act(9, KEEPS, MAX), (MAX ^ 9) + 14);
        Check.due("HEAP 0 by 3", with(3, 3).act(0, KEEPS, MAX), MIN + 4);
    }

    /** mends(x) - keeps(1). */
    private static void tellsWraps() {
        Check.due("STONE 0", with(0, 0).act(0, TELLS, 1073741824), MAX);
        Check.due("STONE 0", with(0, 0).act(0, TELLS, MIN), -1);
        Check.due("TREE 0", with(5, 0).act(0, TELLS, 1073741824), MAX ^ 5);
        Check.due("TREE 0", with(5, 0).act(0, TELLS, MAX), -3 ^ 5);
        Check.due("TREE 9", ninth(5, 0).act(9, TELLS, MAX - 8), (MIN * 2 - 8) ^ 5);
    }

    /** -super.finds(x + 1): x + 1 wraps, and so does the least int with its sign turned. */
    private static void bitsWrap() {
        Check.due("x + 1", with(6, 0).act(0, FINDS, MAX), MIN);
        Check.due("of 0", with(6, 0).act(0, FINDS, -1), 0);
        Check.due("of -1", with(6, 0).act(0, FINDS, -2), 3);
        Check.due("BITS 9", ninth(6, 0).act(9, FINDS, MAX - 9), MIN);
        Check.due("keeps", with(6, 0).act(0, KEEPS, MIN), 0);
        Check.due("keeps", with(6, 0).act(0, KEEPS, 1073741824), MIN);
        Check.due("mends", with(6, 0).act(0, MENDS, MAX), 0);
    }

    /** super.mends(x) + super.finds(x). */
    private static void sumsWrap() {
        Check.due("by 0", with(7, 0).act(0, MENDS, MAX), -2 - 1 + MAX);
        Check.due("by 3", with(7, 3).act(0, MENDS, MAX - 3), -2 - 1 + MAX);
        Check.due("by 0", with(7, 0).act(0, MENDS, MIN), MAX);
    }

    /** All kinds, all acts, wild x: by the document's bodies written out for each kind. */
    private static void edgesOfAllKinds() {
        int[] wild = {MIN, MIN + 1, -1073741825, -1073741824, -10, -1, 0, 1, 9, 10, 1073741823, 1073741824, MAX - 1, MAX};
        for (int kind = 0; kind < 8; kind++) {
            for (int key = 0; key <= 3; key += 3) {
                StonesAsked x = ninth(kind, key);
                for (int v : wild) {
                    for (int act = 0; act < 4; act++) {
                        Check.due("act " + act + " of kind " + kind + " with " + v, x.act(9, act, v),
                                written(kind, act, v, 9, key));
                    }
                }
            }
        }
    }

    private static int written(int kind, int act, int x, int n, int k) {
        switch (act) {
            case FINDS:
                return kind == 0 || kind == 5 ? x + n : kind == 4 ? (x + n) * 3 : kind == 6 ? -((x + 1 + n) * 3) : x + n + k;
            case MENDS:
                int twice = written(kind, FINDS, x, n, k) * 2;
                return kind == 2 ? twice - 1 : kind == 7 ? twice - 1 + x + n + k : twice;
            case KEEPS:
                return kind == 3 ? (x ^ n) + 2 + n + k : kind == 6 ? (x ^ n) * 2 : x ^ n;
            default:
                int told = written(kind, MENDS, x, n, k) - written(kind, KEEPS, 1, n, k);
                return kind == 5 ? told ^ 5 : told;
        }
    }

    /** "n its number, k its KEY": of stones 0 to 9. */
    private static void actsOfTen() {
        StonesAsked x = new StonesAsked();
        for (int i = 0; i < 10; i++) {
            Check.due("no such stone yet", x.act(i, FINDS, 7), 0);
            x.stone(1, i % 4);
            Check.due("finds", x.act(i, FINDS, 7), 7 + i + i % 4);
        }
        Check.due("no stone 10", x.act(10, FINDS, 7), 0);
    }

    /** "0, and no TRACE then: no such STONE, ACT." */
    private static void noStoneNoAct() {
        int[][] wrong = {{-1, 0}, {1, 0}, {MIN, 3}, {MAX, 3}, {0, -1}, {0, 4}, {0, MIN}, {0, MAX}, {1, 4}};
        for (int[] at : wrong) {
            StonesAsked x = with(1, 0);
            Check.due("an act", x.act(0, TELLS, 5), 9);
            Check.due("five bodies", x.count(6), 5);
            Check.due("a wrong one", x.act(at[0], at[1], 5), 0);
            Check.due("no bodies", x.count(6), 0);
            for (int i = -1; i <= 5; i++) {
                Check.due("no trace", x.trace(i), -1);
            }
            Check.due("an act again", x.act(0, FINDS, 5), 5);
            Check.due("its trace", x.trace(0), 20);
            Check.due("two bodies", x.count(6), 2);
        }
    }

    /** trace: "THE TRACE's i-th body. BAD." */
    private static void traceAtItsEdges() {
        Bounds.refused("none yet", World::none, -1, x -> x.trace(0));
        StonesAsked x = with(0, 0);
        Check.due("none yet", x.trace(0), -1);
        x.act(0, KEEPS, 0);
        Check.due("one body", x.trace(0), 11);
        for (int i : new int[] {MIN, -1, 1, 23, 24, 25, MAX}) {
            Check.due("no body", x.trace(i), -1);
        }
        x.act(0, TELLS, 0);
        int[] want = {2, 10, 1, 11};
        for (int i = 0; i < 4; i++) {
            Check.due("body", x.trace(i), want[i]);
        }
        Check.due("no body", x.trace(4), -1);
        Check.due("no body", x.trace(-1), -1);
    }

    /** "in the latest act()": a shorter one leaves nothing of a longer one, of this or another stone. */
    private static void traceOfTheLatest() {
        StonesAsked x = with(7, 0);
        x.stone(0, 0);
        x.act(0, TELLS, 0);
        Check.due("nine", x.count(6), 9);
        Check.due("the ninth", x.trace(8), 11);
        x.act(1, FINDS, 0);
        Check.due("one", x.count(6), 1);
        Check.due("just one", x.trace(0), 1);
        Check.due("just one", x.trace(1), -1);
        x.act(0, KEEPS, 0);
        Check.due("one", x.count(6), 1);
        Check.due("just one", x.trace(0), 11);
        Check.due("just one", x.trace(1), -1);
    }

    /** ACTS change nothing but THE TRACE. */
    private static void actsChangeNothingElse() {
        for (int kind = 0; kind < 8; kind++) {
            for (int act = 0; act < 4; act++) {
                StonesAsked x = World.some();
                x.act(kind, act, MAX);
                x.act(7, TELLS, 5);
                Bounds.alike("act " + act + " of kind " + kind, x, World.some());
            }
        }
    }

    /** "the first 24 are kept": no ACT runs more than nine bodies, so that all are kept and all are counted. */
    private static void longestTrace() {
        int[][] bodies = {{1, 2, 1, 4}, {2, 3, 1, 5}, {2, 4, 1, 6}, {2, 3, 4, 8}, {2, 3, 1, 5}, {1, 2, 1, 5},
            {3, 4, 2, 7}, {2, 7, 1, 9}};
        for (int kind = 0; kind < 8; kind++) {
            StonesAsked x = with(kind, 1);
            for (int act = 0; act < 4; act++) {
                x.act(0, act, 1);
                int size = bodies[kind][act];
                Check.due("bodies of act " + act + ", kind " + kind, x.count(6), size);
                Check.holds("the last one is kept", x.trace(size - 1) > 0);
                Check.due("none behind it", x.trace(size), -1);
            }
        }
    }
}
