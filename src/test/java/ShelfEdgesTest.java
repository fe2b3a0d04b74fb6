/** Terms 6, shelves, and promises 35 to 42: a test for each sentence that names an edge. */
public final class ShelfEdgesTest {
    private static final int BAD = -1, NOTHING = -11, KIND = -12, PLACE = -13, SIZE = -14;
    private static final int MIN = Integer.MIN_VALUE, MAX = Integer.MAX_VALUE;
    private static final long NONE = Long.MIN_VALUE;

    public static void main(String[] args) {
        nothingAtFirst();
        sixShelves();
        keptAndGivenUp();
        refusedKeep();
        rowsOf0To60();
        zeroAtFirst();
        refusedRow();
        bytesAtTheirEdges();
        shortsAtTheirEdges();
        intsAtTheirEdges();
        longsAtTheirEdges();
        booleansAtTheirEdges();
        setByOrder();
        elementRefused();
        shiftOfNone();
        shiftOfAll();
        shiftAsTheyWere();
        shiftByOrder();
        shiftBetweenSorts();
        takenUnder();
        takenByOrder();
        thingsByFours();
        thingsFromAPlace();
        thingsNoValue();
        thingsRefused();
        thingsWhereNothingIs();
        thingsByOrder();
        thingsInStones();
        counts();
        Check.end();
    }

    private static StonesAsked row(int sort, int n) {
        StonesAsked x = new StonesAsked();
        x.row(0, sort, n);
        for (int i = 0; i < n; i++) {
            x.set(0, i, i + 1);
        }
        return x;
    }

    private static void elements(String call, StonesAsked x, int shelf, long... want) {
        for (int i = 0; i < want.length; i++) {
            Check.due(call + ": element " + i, x.element(shelf, i), want[i]);
        }
        Check.due(call + ": no more", x.element(shelf, want.length), NONE);
    }

    /** "SHELVES 0 .. 5 each hold nothing (at first)". */
    private static void nothingAtFirst() {
        for (int shelf = 0; shelf < 6; shelf++) {
            int of = shelf;
            Bounds.refused("taken", World::none, NOTHING, x -> x.taken(of, 0));
            Bounds.refused("set", World::none, NOTHING, x -> x.set(of, 0, 1));
            Bounds.refused("element", World::none, NONE, x -> x.element(of, 0));
            Bounds.refused("shift", World::none, NOTHING, x -> x.shift(of, 0, of, 0, 0));
            Bounds.refused("things", World::none, 0, x -> x.things(of, 0, 1));
        }
    }

    /** Each of the six holds for itself; the same STONE may stand on all. */
    private static void sixShelves() {
        StonesAsked x = new StonesAsked();
        x.stone(7, 0);
        for (int shelf = 0; shelf < 6; shelf++) {
            Check.due("row", x.row(shelf, 2, 1), 1);
            Check.due("set", x.set(shelf, 0, 100 + shelf), 1);
        }
        for (int shelf = 0; shelf < 6; shelf++) {
            Check.due("each for itself", x.element(shelf, 0), 100 + shelf);
        }
        for (int shelf = 0; shelf < 6; shelf++) {
            Check.due("keep", x.keep(shelf, 0), 1);
            Check.due("the stone", x.taken(shelf, 7), 7);
        }
        for (int shelf : new int[] {-1, 6}) {
            int of = shelf;
            Bounds.refused("no shelf", World::some, BAD, y -> y.keep(of, 0));
            Bounds.refused("no shelf", World::some, BAD, y -> y.keep(of, -1));
            Bounds.refused("no shelf", World::some, BAD, y -> y.row(of, 0, 1));
        }
    }

    /** "A SHELF holds nothing (stone -1), or a STONE: 1." */
    private static void keptAndGivenUp() {
        StonesAsked x = new StonesAsked();
        Check.due("nothing, where nothing is", x.keep(0, -1), 1);
        Check.due("nothing", x.taken(0, 0), NOTHING);
        for (int i = 0; i < 10; i++) {
            x.stone(i % 8, 0);
        }
        for (int i = 0; i < 10; i++) {
            Check.due("keep", x.keep(0, i), 1);
            Check.due("it gives way to the next", x.taken(0, 0), i % 8);
        }
        Check.due("nothing", x.keep(0, -1), 1);
        Check.due("nothing", x.taken(0, 0), NOTHING);
        x.row(0, 0, 2);
        Check.due("a row gives way", x.keep(0, 9), 1);
        Check.due("no row", x.element(0, 0), NONE);
        Check.due("another kind", x.set(0, 0, 1), KIND);
        Check.due("a stone gives way", x.row(0, 0, 2), 1);
        Check.due("no stone", x.taken(0, 0), KIND);
        Check.due("nothing", x.keep(0, -1), 1);
        Check.due("nothing", x.set(0, 0, 1), NOTHING);
    }

    /** keep: BAD; what the SHELF held stays. */
    private static void refusedKeep() {
        for (int shelf = 0; shelf < 6; shelf++) {
            int of = shelf;
            for (int stone : new int[] {8, -2, MIN, MAX}) {
                Bounds.refused("no stone " + stone, World::some, BAD, x -> x.keep(of, stone));
            }
            Bounds.refused("no stone at all", World::none, BAD, x -> x.keep(of, 0));
            Bounds.refused("no stone 10", World::full, BAD, x -> x.keep(of, 10));
        }
    }

    /** "of 0 .. 60 elements": by each sort. */
    private static void rowsOf0To60() {
        for (int sort = 0; sort <= 4; sort++) {
            for (int n : new int[] {0, 1, 59, 60}) {
                StonesAsked x = new StonesAsked();
                Check.due("row", x.row(0, sort, n), 1);
                Check.due("behind the last", x.set(0, n, 1), PLACE);
                Check.due("ahead of the first", x.set(0, -1, 1), PLACE);
                Check.due("behind the last", x.element(0, n), NONE);
                if (n > 0) {
                    Check.due("the last", x.set(0, n - 1, 1), 1);
                    Check.due("the last", x.element(0, n - 1), 1);
                    Check.due("the first", x.set(0, 0, 1), 1);
                }
            }
        }
    }

    /** "0 at first (false)": whatever stood on the SHELF. */
    private static void zeroAtFirst() {
        StonesAsked x = new StonesAsked();
        for (int sort = 0; sort <= 4; sort++) {
            x.row(0, 3, 60);
            for (int i = 0; i < 60; i += 59) {
                x.set(0, i, -1);
            }
            x.row(0, sort, 3);
            elements("a short one", x, 0, 0, 0, 0);
            x.row(0, sort, 60);
            Check.due("its first", x.element(0, 0), 0);
            Check.due("its last", x.element(0, 59), 0);
        }
    }

    /** row: "BAD (sort, n above 60); -14." */
    private static void refusedRow() {
        for (int n : new int[] {-1, MIN, 61, MAX, 0, 60}) {
            Bounds.refused("no sort, n " + n, World::some, BAD, x -> x.row(2, 5, n));
            Bounds.refused("no sort, n " + n, World::some, BAD, x -> x.row(2, -1, n));
            Bounds.refused("no shelf, n " + n, World::some, BAD, x -> x.row(6, 0, n));
        }
        for (int shelf = 0; shelf < 6; shelf++) {
            int of = shelf;
            Bounds.refused("below 0", World::some, SIZE, x -> x.row(of, 0, -1));
            Bounds.refused("below 0", World::some, SIZE, x -> x.row(of, 4, MIN));
            Bounds.refused("above 60", World::some, BAD, x -> x.row(of, 0, 61));
            Bounds.refused("above 60", World::some, BAD, x -> x.row(of, 4, MAX));
        }
    }

    private static void kept(int sort, long[] put, long[] want) {
        StonesAsked x = new StonesAsked();
        x.row(0, sort, 3);
        for (int i = 0; i < put.length; i++) {
            Check.due("set", x.set(0, 1, put[i]), 1);
            elements("sort " + sort + " of " + put[i], x, 0, 0, want[i], 0);
        }
    }

    /** "what is put in keeps its lowest bits", "as the host has them, with sign". */
    private static void bytesAtTheirEdges() {
        kept(0, new long[] {0, 127, 128, 255, 256, -1, -128, -129, 99, 1L << 32, Long.MIN_VALUE, Long.MAX_VALUE},
                new long[] {0, 127, -128, -1, 0, -1, -128, 127, 99, 0, 0, -1});
    }

    private static void shortsAtTheirEdges() {
        kept(1, new long[] {32767, 32768, 65535, 65536, -1, -32768, -32769, 1L << 32, Long.MIN_VALUE, Long.MAX_VALUE},
                new long[] {32767, -32768, -1, 0, -1, -32768, 32767, 0, 0, -1});
    }

    private static void intsAtTheirEdges() {
        kept(2, new long[] {MAX, MAX + 1L, 0xFFFFFFFFL, 1L << 32, -1, MIN, MIN - 1L, Long.MIN_VALUE, Long.MAX_VALUE},
                new long[] {MAX, MIN, -1, 0, -1, MIN, MAX, 0, -1});
    }

    private static void longsAtTheirEdges() {
        long[] all = {0, 1, -1, 1L << 32, MAX + 1L, MIN - 1L, Long.MAX_VALUE, Long.MIN_VALUE + 1, Long.MIN_VALUE};
        kept(3, all, all);
    }

    /** "(a boolean: whether it is not 0; 1 or 0)". */
    private static void booleansAtTheirEdges() {
        kept(4, new long[] {1, 0, 2, 0, 256, 65536, 0, 1L << 32, 0, -1, Long.MIN_VALUE, Long.MAX_VALUE, 0},
                new long[] {1, 0, 1, 0, 1, 1, 0, 1, 0, 1, 1, 1, 0});
    }

    /** set: "BAD, -11, -12, -13", the first one of them. */
    private static void setByOrder() {
        for (int i : new int[] {0, -1, 60, MIN, MAX}) {
            Bounds.refused("no shelf", World::some, BAD, x -> x.set(6, i, 1));
            Bounds.refused("no shelf", World::some, BAD, x -> x.set(-1, i, 1));
            Bounds.refused("nothing there", World::some, NOTHING, x -> x.set(0, i, 1));
            Bounds.refused("a stone", World::some, KIND, x -> x.set(1, i, 1));
        }
        for (int i : new int[] {-1, 60, MIN, MAX}) {
            Bounds.refused("no place", World::some, PLACE, x -> x.set(5, i, 1));
        }
        Bounds.refused("no place", World::some, PLACE, x -> x.set(2, 9, 1));
        StonesAsked x = new StonesAsked();
        x.row(0, 0, 0);
        Check.due("a row of none is something, without a place", x.set(0, 0, 1), PLACE);
    }

    /** element: "Long.MIN_VALUE: BAD, -11 to -13." */
    private static void elementRefused() {
        int[][] none = {{-1, 0}, {6, 0}, {MIN, 0}, {MAX, 0}, {0, 0}, {1, 0}, {2, -1}, {2, 9}, {2, MIN}, {2, MAX},
            {3, 3}, {4, 2}, {5, 60}};
        for (int[] at : none) {
            Bounds.refused("element " + at[0] + " " + at[1], World::some, NONE, x -> x.element(at[0], at[1]));
        }
        StonesAsked x = World.some();
        Check.due("the first", x.element(2, 0), 20);
        Check.due("the last", x.element(2, 8), 28);
        Check.due("with sign", x.element(3, 1), -5);
    }

    /** n 0: of a ROW of none, and at the end of a ROW. */
    private static void shiftOfNone() {
        StonesAsked x = row(0, 3);
        x.row(1, 0, 0);
        int[][] fine = {{0, 0, 0, 0}, {0, 3, 0, 3}, {0, 3, 1, 0}, {1, 0, 0, 3}, {1, 0, 1, 0}, {0, 0, 1, 0}};
        for (int[] at : fine) {
            Check.due("none", x.shift(at[0], at[1], at[2], at[3], 0), 0);
        }
        int[][] not = {{0, 4, 0, 0}, {0, 0, 0, 4}, {0, -1, 0, 0}, {0, 0, 0, -1}, {1, 1, 0, 0}, {0, 0, 1, 1}};
        for (int[] at : not) {
            Check.due("no place", x.shift(at[0], at[1], at[2], at[3], 0), PLACE);
        }
        elements("none came", x, 0, 1, 2, 3);
        Check.due("one to a row of none", x.shift(0, 0, 1, 0, 1), PLACE);
        Check.due("one from a row of none", x.shift(1, 0, 0, 0, 1), PLACE);
    }

    /** n 60, the most that there are. */
    private static void shiftOfAll() {
        for (int sort = 0; sort <= 4; sort++) {
            StonesAsked x = row(sort, 60);
            x.row(1, sort, 60);
            Check.due("all", x.shift(0, 0, 1, 0, 60), 60);
            for (int i = 0; i < 60; i += 59) {
                Check.due("element", x.element(1, i), x.element(0, i));
            }
            Check.due("one too many", x.shift(0, 0, 1, 0, 61), PLACE);
            Check.due("one too far", x.shift(0, 1, 1, 0, 60), PLACE);
            Check.due("one too far", x.shift(0, 0, 1, 1, 60), PLACE);
            Check.due("all to itself", x.shift(0, 0, 0, 0, 60), 60);
            Check.due("the last alone", x.shift(0, 59, 1, 0, 1), 1);
            Check.due("it came", x.element(1, 0), x.element(0, 59));
        }
    }

    /** "to another one (or the same) from j on, as they all were before". */
    private static void shiftAsTheyWere() {
        for (int from = 0; from <= 6; from++) {
            for (int to = 0; to <= 6; to++) {
                for (int n = 0; n <= 6 - Math.max(from, to); n++) {
                    StonesAsked x = row(2, 6);
                    long[] want = {1, 2, 3, 4, 5, 6};
                    for (int i = 0; i < n; i++) {
                        want[to + i] = from + i + 1;
                    }
                    Check.due("shift", x.shift(0, from, 0, to, n), n);
                    elements(n + " from " + from + " to " + to, x, 0, want);
                }
            }
        }
        StonesAsked x = row(2, 3);
        x.row(5, 2, 2);
        Check.due("to another", x.shift(0, 1, 5, 0, 2), 2);
        elements("came", x, 5, 2, 3);
        elements("stays", x, 0, 1, 2, 3);
    }

    /** shift: "BAD, -11 (either), -12 (no ROWS, or of unlike sorts), -13 (n below 0, too)". */
    private static void shiftByOrder() {
        int[] shelves = {-1, 6, MIN, MAX};
        for (int none : shelves) {
            for (int other = 0; other < 6; other++) {
                int of = other;
                Bounds.refused("no shelf", World::some, BAD, x -> x.shift(none, 0, of, 0, -1));
                Bounds.refused("no other", World::some, BAD, x -> x.shift(of, 0, none, 0, -1));
            }
        }
        for (int other = 0; other < 6; other++) {
            int of = other;
            Bounds.refused("nothing there", World::some, NOTHING, x -> x.shift(0, 0, of, 0, -1));
            Bounds.refused("nothing there", World::some, NOTHING, x -> x.shift(of, 0, 0, 0, -1));
        }
        for (int other = 1; other < 6; other++) {
            int of = other;
            Bounds.refused("a stone", World::some, KIND, x -> x.shift(1, 0, of, 0, -1));
            Bounds.refused("a stone", World::some, KIND, x -> x.shift(of, 0, 1, 0, -1));
        }
        Bounds.refused("unlike sorts", World::some, KIND, x -> x.shift(2, 0, 3, 0, -1));
        Bounds.refused("n below 0", World::some, PLACE, x -> x.shift(2, 0, 5, 0, -1));
        Bounds.refused("n below 0", World::some, PLACE, x -> x.shift(2, 9, 5, 60, MIN));
        int[][] wraps = {{MAX, 0, 1}, {0, MAX, 1}, {MAX, MAX, MAX}, {1, 0, MAX}, {0, 1, MAX}, {MAX, 0, MAX},
            {MIN, 0, 1}, {0, MIN, 1}, {MIN, MIN, MIN}, {9, 0, MIN}, {-1, 0, 0}, {0, -1, 0}, {-1, 0, 1}, {5, 0, -5}};
        for (int[] at : wraps) {
            Bounds.refused("no place", World::some, PLACE, x -> x.shift(2, at[0], 5, at[1], at[2]));
        }
    }

    /** Each two sorts: just like ones. */
    private static void shiftBetweenSorts() {
        StonesAsked x = new StonesAsked();
        for (int sort = 0; sort <= 4; sort++) {
            x.row(sort, sort, 2);
        }
        for (int from = 0; from <= 4; from++) {
            for (int to = 0; to <= 4; to++) {
                Check.due("from " + from + " to " + to, x.shift(from, 0, to, 0, 0), from == to ? 0 : KIND);
                Check.due("from " + from + " to " + to, x.shift(from, 0, to, 1, 1), from == to ? 1 : KIND);
            }
        }
    }

    /** "taken for a STONE of KIND k (0 .. 7), or under it": all 64. */
    private static void takenUnder() {
        int[] above = {-1, 0, 1, 1, 0, 0, 4, 2};
        for (int kind = 0; kind < 8; kind++) {
            StonesAsked x = new StonesAsked();
            x.stone(kind, 0);
            x.keep(5, 0);
            for (int k = 0; k < 8; k++) {
                int at = kind;
                while (at >= 0 && at != k) {
                    at = above[at];
                }
                Check.due("kind " + kind + " for " + k, x.taken(5, k), at == k ? kind : KIND);
            }
        }
    }

    /** taken: "BAD, -11, -12": a ROW of the host is no STONE, of KIND 0 either. */
    private static void takenByOrder() {
        for (int k : new int[] {-1, 8, MIN, MAX}) {
            for (int shelf = -1; shelf <= 6; shelf++) {
                int of = shelf;
                Bounds.refused("no kind", World::some, BAD, x -> x.taken(of, k));
            }
        }
        for (int k = 0; k < 8; k++) {
            int of = k;
            Bounds.refused("no shelf", World::some, BAD, x -> x.taken(6, of));
            Bounds.refused("no shelf", World::some, BAD, x -> x.taken(-1, of));
            Bounds.refused("nothing there", World::some, NOTHING, x -> x.taken(0, of));
            for (int shelf = 2; shelf < 6; shelf++) {
                int row = shelf;
                Bounds.refused("a row", World::some, KIND, x -> x.taken(row, of));
            }
        }
    }

    /** "by fours the FIELDS: n of them; it ends where the row .. ends (within a four, too)". */
    private static void thingsByFours() {
        for (int size = 0; size <= 60; size++) {
            StonesAsked x = row(0, size);
            Check.due("of " + size, x.things(0, 0, 15), size / 4);
            Check.due("put", x.count(0), size / 4);
            if (size >= 4) {
                int last = size / 4 - 1;
                for (int f = 0; f < 4; f++) {
                    Check.due("field", x.of(last, f), last * 4 + f + 1);
                }
            }
        }
        for (int n = 1; n <= 15; n++) {
            StonesAsked x = row(0, 60);
            Check.due("just n", x.things(0, 0, n), n);
            Check.due("just n", x.count(0), n);
        }
    }

    /** "from place i on"; "(i below 0, too: 0)". */
    private static void thingsFromAPlace() {
        for (int i = 0; i <= 60; i++) {
            StonesAsked x = row(0, 60);
            Check.due("from " + i, x.things(0, i, 15), (60 - i) / 4);
            Check.due("the first field", x.of(0, 0), i <= 56 ? i + 1 : -1);
        }
        for (int i : new int[] {-1, -4, MIN, 6, 9, 10, MAX, MAX - 3}) {
            Bounds.refused("from " + i, World::some, 0, x -> x.things(2, i, 1));
            Bounds.refused("from " + i, World::some, 0, x -> x.things(2, i, 15));
        }
        StonesAsked none = new StonesAsked();
        none.row(0, 0, 0);
        Check.due("of a row of none", none.things(0, 0, 15), 0);
    }

    /** "has one that is no value": each of the four, on both sides; those ahead are put. */
    private static void thingsNoValue() {
        for (int at = 4; at < 8; at++) {
            for (int v : new int[] {-1, 100, 127, -128}) {
                StonesAsked x = row(0, 12);
                x.set(0, at, v);
                Check.due("one ahead", x.things(0, 0, 3), 1);
                Check.due("one is put", x.count(0), 1);
                Check.due("none from there", x.things(0, 4, 2), 0);
                Check.due("one is put", x.count(0), 1);
            }
            for (int v : new int[] {0, 99}) {
                StonesAsked x = row(0, 12);
                x.set(0, at, v);
                Check.due("all", x.things(0, 0, 3), 3);
                Check.due("its value", x.of(1, at - 4), v);
            }
        }
    }

    /** "or the THING is refused: those ahead are put": by a LAW, and for want of room. */
    private static void thingsRefused() {
        StonesAsked law = row(0, 12);
        law.most(3, 15);
        Check.due("4 and 8 are 12", law.things(0, 0, 3), 2);
        Check.due("two are put", law.count(0), 2);
        Check.due("none more", law.things(0, 8, 1), 0);
        StonesAsked like = row(0, 12);
        like.set(0, 8, 1);
        like.unlike(0, 1);
        Check.due("1 comes again", like.things(0, 0, 3), 2);
        for (int have = 65; have <= 80; have++) {
            StonesAsked x = Check.withKeys(new int[have]);
            x.row(0, 0, 60);
            Check.due("room for " + (80 - have), x.things(0, 0, 15), 80 - have);
            Check.due("80", x.count(0), 80);
        }
        Bounds.refused("no room", World::full, 0, x -> x.things(0, 0, 15));
    }

    /** "it ends where the row is missing": a SHELF that holds nothing. */
    private static void thingsWhereNothingIs() {
        for (int i : new int[] {0, -1, MIN, MAX}) {
            Bounds.refused("nothing there", World::some, 0, x -> x.things(0, i, 1));
            Bounds.refused("nothing there", World::some, 0, x -> x.things(0, i, 15));
        }
    }

    /** things: "BAD, -12 (no ROW of bytes; ..)". */
    private static void thingsByOrder() {
        for (int n : new int[] {0, 16, -1, MIN, MAX}) {
            for (int shelf = -1; shelf <= 6; shelf++) {
                int of = shelf;
                Bounds.refused("n " + n, World::some, BAD, x -> x.things(of, 0, n));
            }
        }
        for (int shelf : new int[] {-1, 6, MIN, MAX}) {
            Bounds.refused("no shelf", World::some, BAD, x -> x.things(shelf, 0, 1));
        }
        for (int shelf : new int[] {1, 3, 4}) {
            for (int i : new int[] {0, -1, 60}) {
                Bounds.refused("no bytes", World::some, KIND, x -> x.things(shelf, i, 1));
            }
        }
        for (int sort = 1; sort <= 4; sort++) {
            StonesAsked x = row(sort, 8);
            Check.due("sort " + sort, x.things(0, 0, 1), KIND);
        }
    }

    /** What comes from a row is put in each STONE at once. */
    private static void thingsInStones() {
        StonesAsked x = row(0, 60);
        for (int kind = 0; kind < 8; kind++) {
            x.stone(kind, 0);
        }
        Check.due("fifteen", x.things(0, 0, 15), 15);
        for (int kind : new int[] {1, 2, 3, 4, 5, 7}) {
            Check.due("kind " + kind, x.ofStone(kind, 2), 15);
            Check.holds("the last", x.nameAt(kind, 14) >= 0);
        }
        Check.due("looks of each put", x.ofStone(1, 3), 15);
        Check.due("looks of the latest put", x.ofStone(5, 4), 14);
    }

    /** count: what 0 to 6, from nothing to full. */
    private static void counts() {
        StonesAsked none = new StonesAsked();
        StonesAsked full = World.full();
        int[] want = {80, 80, 10, 10, 60, 4, 0};
        for (int what = 0; what <= 6; what++) {
            Check.due("of nothing", none.count(what), 0);
            Check.due("of all", full.count(what), want[what]);
        }
        for (int what : new int[] {-1, 7, MIN, MAX}) {
            Bounds.refused("no what", World::some, BAD, x -> x.count(what));
        }
        full.take(0);
        Check.due("put", full.count(0), 80);
        Check.due("in", full.count(1), 79);
        full.act(7, 3, 0);
        Check.due("bodies", full.count(6), 9);
    }
}
