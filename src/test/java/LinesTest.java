import java.util.Random;

/** Promises 25 to 32: lines of cells, least looks, walks. */
public final class LinesTest {
    public static void main(String[] args) {
        cells();
        misses();
        missesAgainstAll();
        keys();
        leastLooks();
        leastLooksAgainstAll();
        walks();
        frozenWalks();
        Check.end();
    }

    private static void cells() {
        StonesAsked x = new StonesAsked();
        Check.due("bad", x.cell(-1), -1);
        Check.due("bad", x.cell(100), -1);
        Check.due("none is told", x.misses(1, 1, 0), -1);
        for (int i = 1; i <= 60; i++) {
            Check.due("cell", x.cell(i % 2 == 0 ? 0 : 99), i);
        }
        Check.due("full", x.cell(0), -3);
        Check.due("bad stands first", x.cell(100), -1);
        Check.due("misses", x.misses(1, 1, 0), 60);
        Check.due("misses", x.misses(1, 2, 0), 2);
        Check.due("how many", x.uncell(), 60);
        Check.due("none now", x.uncell(), 0);
        Check.due("none now", x.misses(1, 1, 0), -1);
        Check.due("from the first on", x.cell(5), 1);
    }

    private static StonesAsked withCells(int... cells) {
        StonesAsked x = new StonesAsked();
        for (int cell : cells) {
            x.cell(cell);
        }
        return x;
    }

    private static void misses() {
        StonesAsked x = withCells(0, 1, 2, 3, 4, 5, 6, 7, 8);
        Check.due("by lines of 8", x.misses(8, 1, 0), 2);
        Check.due("by lines of 1", x.misses(1, 8, 0), 9);
        Check.due("by lines of 3", x.misses(3, 1, 1), 3);
        Check.due("w", x.misses(0, 1, 0), -1);
        Check.due("w", x.misses(9, 1, 0), -1);
        Check.due("f", x.misses(1, 0, 0), -1);
        Check.due("f", x.misses(1, 9, 0), -1);
        Check.due("what", x.misses(1, 1, 2), -1);
        Check.due("what", x.misses(1, 1, -1), -1);
        Check.due("the cells stay", x.uncell(), 9);
        StonesAsked y = withCells(1, 2, 1, 3, 1, 2);
        // by use 2 goes for 3; 1 was used since, though it came first
        Check.due("by use, not by coming", y.misses(1, 2, 0), 4);
        Check.due("by what comes", y.misses(1, 2, 1), 4);
        StonesAsked z = withCells(1, 2, 3, 1, 2, 3, 1, 2, 3);
        Check.due("round and round", z.misses(1, 2, 0), 9);
        Check.due("knowing it ahead", z.misses(1, 2, 1), 6);
        StonesAsked never = withCells(9, 5, 7, 3, 5, 9, 7);
        // for 3: 7 is used the latest and goes; for 7 nothing is used again
        Check.due("never", never.misses(1, 3, 1), 5);
    }

    private static void missesAgainstAll() {
        Random random = new Random(3);
        for (int round = 0; round < 60; round++) {
            int[] cells = new int[1 + random.nextInt(12)];
            for (int i = 0; i < cells.length; i++) {
                cells[i] = random.nextInt(12);
            }
            StonesAsked x = withCells(cells);
            for (int w = 1; w <= 3; w++) {
                for (int f = 1; f <= 3; f++) {
                    String of = ", round " + round;
                    Check.due("misses by what comes" + of, x.misses(w, f, 1), fewest(cells, 0, w, f, 0));
                    Check.due("misses by what was used" + of, x.misses(w, f, 0), byUsed(cells, w, f));
                }
            }
        }
    }

    /** No order of going misses less: what is held is a set of lines as bits. */
    private static int fewest(int[] cells, int i, int w, int f, int held) {
        if (i == cells.length) {
            return 0;
        }
        int line = 1 << (cells[i] / w);
        if ((held & line) != 0) {
            return fewest(cells, i + 1, w, f, held);
        }
        if (Integer.bitCount(held) < f) {
            return 1 + fewest(cells, i + 1, w, f, held | line);
        }
        int best = Integer.MAX_VALUE;
        for (int out = 1; out <= held; out <<= 1) {
            if ((held & out) != 0) {
                best = Math.min(best, 1 + fewest(cells, i + 1, w, f, held & ~out | line));
            }
        }
        return best;
    }

    /** A line is held just if fewer than f others were used since its last use. */
    private static int byUsed(int[] cells, int w, int f) {
        int misses = 0;
        for (int i = 0; i < cells.length; i++) {
            int since = 0;
            int j = i - 1;
            while (j >= 0 && cells[j] / w != cells[i] / w) {
                since |= 1 << (cells[j] / w);
                j--;
            }
            misses += j < 0 || Integer.bitCount(since) >= f ? 1 : 0;
        }
        return misses;
    }

    private static void keys() {
        StonesAsked x = new StonesAsked();
        Check.due("bad", x.key(-1, 0), -1);
        Check.due("bad", x.key(100, 0), -1);
        Check.due("bad", x.key(0, -1), -1);
        Check.due("bad", x.key(0, 100), -1);
        Check.due("none is told", x.leastLooks(0), -1);
        Check.due("no root yet", x.root(), -1);
        for (int i = 1; i <= 9; i++) {
            Check.due("key", x.key(99, 99), i);
        }
        Check.due("full", x.key(0, 0), -3);
        Check.due("bad stands first", x.key(0, 100), -1);
        Check.due("behind", x.leastLooks(-1), -1);
        Check.due("behind", x.leastLooks(100), -1);
        Check.due("no root yet", x.root(), -1);
        // a balanced tree of nine: depths 1, 2 2, 3 3 3 3, 4 4 and leaves 6 of 3 and 4 of 4
        Check.due("nine alike", x.leastLooks(99), 99 * (1 + 4 + 12 + 8 + 18 + 16));
        Check.due("the least root", x.root(), 3);
        Check.due("the keys are none then", x.leastLooks(0), -1);
        Check.due("the root stays", x.root(), 3);
        Check.due("from the first on", x.key(1, 0), 1);
        Check.due("the root stays", x.root(), 3);
    }

    private static void leastLooks() {
        StonesAsked x = new StonesAsked();
        x.key(7, 2);
        Check.due("one key", x.leastLooks(3), 12);
        Check.due("its root", x.root(), 0);
        x.key(1, 0);
        x.key(1, 0);
        Check.due("two alike", x.leastLooks(0), 3);
        Check.due("the least root", x.root(), 0);
        x.key(1, 0);
        x.key(2, 0);
        Check.due("two", x.leastLooks(0), 4);
        Check.due("the one sought more", x.root(), 1);
        x.key(0, 50);
        x.key(0, 0);
        Check.due("what is ahead", x.leastLooks(0), 50);
        Check.due("the first is the root", x.root(), 0);
        x.key(0, 0);
        x.key(0, 0);
        Check.due("what is behind", x.leastLooks(50), 50);
        Check.due("the last is the root", x.root(), 1);
    }

    private static void leastLooksAgainstAll() {
        Random random = new Random(5);
        StonesAsked x = new StonesAsked();
        for (int round = 0; round < 40; round++) {
            int size = 1 + random.nextInt(7);
            int[] keys = new int[size];
            int[] gaps = new int[size + 1];
            for (int i = 0; i < size; i++) {
                keys[i] = random.nextInt(10);
                gaps[i] = random.nextInt(10);
                x.key(keys[i], gaps[i]);
            }
            gaps[size] = random.nextInt(10);
            Check.due("least looks, round " + round, x.leastLooks(gaps[size]), least(keys, gaps, 0, size, 0));
            Check.due("root, round " + round, x.root(), root(keys, gaps));
        }
    }

    /** Over all trees, each key and gap by the knots on the way to it. */
    private static int least(int[] keys, int[] gaps, int from, int to, int depth) {
        if (from == to) {
            return gaps[from] * depth;
        }
        int best = Integer.MAX_VALUE;
        for (int root = from; root < to; root++) {
            best = Math.min(best, keys[root] * (depth + 1)
                    + least(keys, gaps, from, root, depth + 1) + least(keys, gaps, root + 1, to, depth + 1));
        }
        return best;
    }

    private static int root(int[] keys, int[] gaps) {
        int all = least(keys, gaps, 0, keys.length, 0);
        int root = 0;
        while (keys[root] + least(keys, gaps, 0, root, 1) + least(keys, gaps, root + 1, keys.length, 1) != all) {
            root++;
        }
        return root;
    }

    private static void walks() {
        StonesAsked x = Check.withKeys(1, 2, 3, 4);
        Check.due("bad", x.walk(-1), -1);
        Check.due("bad", x.walk(2), -1);
        Check.due("walk", x.walk(0), 0);
        x.take(0);
        x.take(2);
        Check.due("next", x.next(0), 1);
        x.take(1);
        Check.due("next", x.next(0), 3);
        Check.due("behind the last", x.next(0), -1);
        Check.due("behind the last", x.next(0), -1);
        x.put(5, 0, 0, 0);
        x.put(6, 0, 0, 0);
        x.take(4);
        Check.due("it goes on", x.next(0), 5);
        Check.due("behind the last", x.next(0), -1);
        Check.due("no walk", x.next(1), -1);
        Check.due("no walk", x.next(-1), -1);
        for (int i = 1; i < 4; i++) {
            Check.due("walk", x.walk(i % 2), i);
        }
        Check.due("full", x.walk(0), -3);
        Check.due("bad stands first", x.walk(2), -1);
        Check.due("no walk 4", x.next(4), -1);
        Check.due("walks", x.count(5), 4);
        Check.due("each for itself", x.next(2), 3);
        Check.due("each for itself", x.next(1), 3);
        Check.due("each for itself", x.next(2), 5);
    }

    private static void frozenWalks() {
        StonesAsked x = Check.withKeys(1, 2, 3, 4);
        x.take(1);
        Check.due("walk", x.walk(1), 0);
        x.take(0);
        x.take(3);
        x.put(5, 0, 0, 0);
        Check.due("gone since", x.next(0), 0);
        Check.due("gone before is left out", x.next(0), 2);
        Check.due("gone since", x.next(0), 3);
        Check.due("what came since is not there", x.next(0), -1);
        x.put(5, 0, 0, 0);
        Check.due("and stays so", x.next(0), -1);
        Check.due("a later one", x.walk(1), 1);
        Check.due("a later one", x.next(1), 2);
        Check.due("a later one", x.next(1), 4);
        StonesAsked none = new StonesAsked();
        none.walk(1);
        none.put(1, 0, 0, 0);
        Check.due("over nothing", none.next(0), -1);
    }
}
