import java.util.Random;

/** Promises 33, 34 and count(6) of 42: acts of stones and their trace. */
public final class ActsTest {
    private static final int[] ABOVE = {-1, 0, 1, 1, 0, 0, 4, 2};

    public static void main(String[] args) {
        byHand();
        wrongOnes();
        againstTable();
        Check.end();
    }

    private static void trace(StonesAsked x, String call, int... bodies) {
        Check.due(call + ": bodies", x.count(6), bodies.length);
        for (int i = 0; i < bodies.length; i++) {
            Check.due(call + ": trace " + i, x.trace(i), bodies[i]);
        }
        Check.due(call + ": behind the trace", x.trace(bodies.length), -1);
        Check.due(call + ": ahead of the trace", x.trace(-1), -1);
    }

    private static void byHand() {
        StonesAsked x = new StonesAsked();
        for (int kind = 0; kind < 8; kind++) {
            x.stone(kind, 3);
        }
        Check.due("STONE tells", x.act(0, 3, 5), 10 - 1);
        trace(x, "STONE tells", 2, 10, 1, 11);
        Check.due("ROW finds", x.act(1, 0, 5), 6 + 3);
        trace(x, "ROW finds", 20, 1);
        Check.due("SORTED mends", x.act(2, 1, 5), (5 + 2 + 3) * 2 - 1);
        trace(x, "SORTED mends", 30, 10, 20, 1);
        Check.due("HEAP keeps", x.act(3, 2, 5), (5 ^ 3) + (2 + 3 + 3));
        trace(x, "HEAP keeps", 40, 11, 20, 1);
        Check.due("TABLE finds", x.act(4, 0, 5), 27);
        trace(x, "TABLE finds", 50, 1);
        Check.due("TREE tells", x.act(5, 3, 5), (20 - (1 ^ 5)) ^ 5);
        trace(x, "TREE tells", 60, 2, 10, 1, 11);
        Check.due("BITS finds", x.act(6, 0, 5), -((6 + 6) * 3));
        trace(x, "BITS finds", 70, 50, 1);
        Check.due("BITS keeps", x.act(6, 2, 5), (5 ^ 6) * 2);
        trace(x, "BITS keeps", 71, 11);
        Check.due("BITS tells", x.act(6, 3, 5), -36 * 2 - (1 ^ 6) * 2);
        trace(x, "BITS tells", 2, 10, 70, 50, 1, 71, 11);
        Check.due("SUMS tells", x.act(7, 3, 5), (15 * 2 - 1) + 15 - (1 ^ 7));
        trace(x, "SUMS tells", 2, 80, 30, 10, 20, 1, 20, 1, 11);
        Check.due("it wraps", x.act(1, 1, Integer.MAX_VALUE), (Integer.MAX_VALUE + 4) * 2);
    }

    private static void wrongOnes() {
        int[][] wrong = {{1, 0}, {-1, 0}, {0, 4}, {0, -1}};
        for (int[] call : wrong) {
            StonesAsked x = new StonesAsked();
            x.stone(1, 0);
            x.act(0, 0, 1);
            Check.due("a body ran", x.count(6), 2);
            Check.due("no such stone or act", x.act(call[0], call[1], 9), 0);
            trace(x, "no trace then");
        }
    }

    private StonesAsked object;
    private int number;
    private int key;
    private int kind;
    private final java.util.ArrayList<Integer> bodies = new java.util.ArrayList<>();

    /** The table of bodies again, with looking for them by hand. */
    private static void againstTable() {
        Random random = new Random(13);
        ActsTest t = new ActsTest();
        t.object = new StonesAsked();
        for (int i = 0; i < 10; i++) {
            t.object.stone((i * 3 + 1) % 8, i % 4);
        }
        for (int round = 0; round < 400; round++) {
            t.number = random.nextInt(10);
            t.kind = (t.number * 3 + 1) % 8;
            t.key = t.number % 4;
            t.bodies.clear();
            int act = random.nextInt(4);
            int x = random.nextInt();
            int want = t.from(t.kind, act, x);
            Check.due("act", t.object.act(t.number, act, x), want);
            int[] row = new int[t.bodies.size()];
            for (int i = 0; i < row.length; i++) {
                row[i] = t.bodies.get(i);
            }
            trace(t.object, "act", row);
        }
    }

    private int from(int from, int act, int x) {
        for (int at = from; at >= 0; at = ABOVE[at]) {
            int body = body(at, act);
            if (body != 0) {
                bodies.add(body);
                return run(body, at == 0 ? 0 : ABOVE[at], x);
            }
        }
        throw new IllegalStateException("no body");
    }

    private static int body(int kind, int act) {
        int[][] table = {{1, 10, 11, 2}, {20, 0, 0, 0}, {0, 30, 0, 0}, {0, 0, 40, 0}, {50, 0, 0, 0},
            {0, 0, 0, 60}, {70, 0, 71, 0}, {0, 80, 0, 0}};
        return table[kind][act];
    }

    private int run(int body, int above, int x) {
        switch (body) {
            case 1: return x + number;
            case 2: return from(kind, 1, x) - from(kind, 2, 1);
            case 10: return from(kind, 0, x) * 2;
            case 11: return x ^ number;
            case 20: return from(above, 0, x) + key;
            case 30: return from(above, 1, x) - 1;
            case 40: return from(above, 2, x) + from(kind, 0, 2);
            case 50: return from(above, 0, x) * 3;
            case 60: return from(above, 3, x) ^ 5;
            case 70: return -from(above, 0, x + 1);
            case 71: return from(above, 2, x) * 2;
            default: return from(above, 1, x) + from(above, 0, x);
        }
    }
}
