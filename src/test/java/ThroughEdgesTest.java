/** Terms 3, asks through stones, and promises 14 to 16: a test for each sentence that names an edge. */
public final class ThroughEdgesTest {
    private static final int NOT = -2, MAYBE = -6, VOID = -2000000000;

    public static void main(String[] args) {
        stoneSeesNothing();
        emptyStones();
        rowSeesAll();
        heapTopAlone();
        heapElseAll();
        leastAtItsEdges();
        mostAtItsEdges();
        greatestAndLeastOfAll();
        leastAboveMost();
        firstOneBeyondMost();
        placeWithNumberBelowAll();
        sumsOfBothEnds();
        sumsJustAsTold();
        sumsElseAsSorted();
        tableFirstEqual();
        tableEmptyBucket();
        tableElseAll();
        treeSides();
        treeLeastAboveMost();
        bitsJustAsTold();
        bitsZeroOrMaybe();
        notIsARefusal();
        looksStay();
        badAheadOfNot();
        firstUnlikeEdges();
        seenOnceEach();
        allValuesThroughAll();
        Check.end();
    }

    private static StonesAsked with(int kind, int... keys) {
        StonesAsked x = Check.withKeys(keys);
        x.stone(kind, 0);
        return x;
    }

    private static void through(StonesAsked x, String text, int a, int b, int answer, int looks) {
        Check.ask(x, text);
        int ask = x.count(2) - 1;
        Check.due("answer of " + text, x.answer(ask, a, b), answer);
        Check.due("through, " + text, x.through(0, ask, a, b), answer);
        Check.due("looks of " + text + " by " + a + ", " + b, x.looks(), looks);
    }

    /** "STONE: nothing is seen; it can't (-2)": of nothing, too. */
    private static void stoneSeesNothing() {
        String[] asks = {":n", ":s0", ":m0", ":x0", "0=a:n", "1>a:n"};
        StonesAsked x = with(0);
        StonesAsked y = with(0, 1, 2);
        for (String text : asks) {
            int ask = Check.ask(x, text);
            Check.ask(y, text);
            Check.due("of nothing", x.through(0, ask, 1, 1), NOT);
            Check.due("of two", y.through(0, ask, 1, 1), NOT);
        }
        Check.due("looks", y.looks(), 0);
    }

    /** Through a STONE that keeps nothing: no LOOK but those of BITS. */
    private static void emptyStones() {
        for (int kind = 1; kind <= 7; kind++) {
            StonesAsked gone = with(kind, 5);
            gone.take(0);
            for (StonesAsked x : new StonesAsked[] {with(kind), gone}) {
                if (kind == 6 && x == gone) {
                    continue;
                }
                String[] asks = {":n", ":s0", ":m0", ":x0", "0=a:n", "0>a:s0", "0<a:m0"};
                int[] want = {0, 0, -1, -1, 0, 0, -1};
                for (int i = 0; i < asks.length; i++) {
                    Check.ask(x, asks[i]);
                    boolean can = kind != 6 || i == 4;
                    Check.due(asks[i] + ", kind " + kind, x.through(0, i, 5, 0), can ? want[i] : NOT);
                    Check.due("looks, kind " + kind, x.looks(), kind == 6 && i >= 4 ? 2 : 0);
                }
            }
        }
    }

    /** "ROW: all names, 1 LOOK each." */
    private static void rowSeesAll() {
        StonesAsked one = with(1, 5);
        through(one, "0=a:n", 5, 0, 1, 1);
        through(one, "0=a:n", 6, 0, 0, 1);
        StonesAsked x = with(1, new int[80]);
        through(x, ":n", 0, 0, 80, 80);
        x.take(79);
        through(x, ":m0", 0, 0, 0, 79);
    }

    /** "HEAP: if O is m KEY, and there is no C: the top alone (1 LOOK; none: 0)." */
    private static void heapTopAlone() {
        StonesAsked x = with(3, 7);
        through(x, ":m0", 0, 0, 0, 1);
        x.take(0);
        through(x, ":m0", 0, 0, -1, 0);
        StonesAsked y = with(3, 7, 7, 3, 3);
        through(y, ":m0", 0, 0, 2, 1);
        y.take(2);
        through(y, ":m0", 0, 0, 3, 1);
    }

    /** "else as a ROW of its places": any C, any other O. */
    private static void heapElseAll() {
        StonesAsked x = with(3, 7, 7, 3);
        through(x, "0>00:m0", 0, 0, 2, 3);
        through(x, "1=00:m0", 0, 0, 2, 3);
        through(x, ":m1", 0, 0, 0, 3);
        through(x, ":x0", 0, 0, 0, 3);
        through(x, ":s0", 0, 0, 17, 3);
        through(x, ":n", 0, 0, 3, 3);
        StonesAsked byOther = Check.withKeys(7, 7, 3);
        byOther.stone(3, 1);
        through(byOther, ":m0", 0, 0, 2, 3);
        through(byOther, ":m1", 0, 0, 0, 1);
    }

    /** "a LEAST value (of = v: v; of > v: v + 1; .. else 0)": from 0 to 100. */
    private static void leastAtItsEdges() {
        for (int kind : new int[] {2, 5}) {
            StonesAsked x = with(kind, 0, 99);
            // SORTED: halves of two (by 0 and by 1..99 two, by 100 one), then names
            boolean sorted = kind == 2;
            through(x, "0>a:n", 0, 0, 1, sorted ? 2 + 1 : 2);
            through(x, "0>a:n", 98, 0, 1, sorted ? 2 + 1 : 2);
            through(x, "0>a:n", 99, 0, 0, sorted ? 1 : 2);
            through(x, "0=a:n", 99, 0, 1, sorted ? 2 + 1 : 2);
            through(x, "0=a:n", 0, 0, 1, sorted ? 2 + 2 : 2);
            through(x, "1=00:n", 0, 0, 2, sorted ? 2 + 2 : 2);
        }
    }

    /** "a MOST one (of = v: v; of < v: v - 1; .. else 99)": from -1 to 99. */
    private static void mostAtItsEdges() {
        for (int kind : new int[] {2, 5}) {
            StonesAsked x = with(kind, 0, 99);
            boolean sorted = kind == 2;
            through(x, "0<a:n", 99, 0, 1, sorted ? 2 + 2 : 2);
            through(x, "0<a:n", 1, 0, 1, sorted ? 2 + 2 : 2);
            // MOST is -1: the first name is beyond it; in the TREE the root's greater side is left out
            through(x, "0<a:n", 0, 0, 0, sorted ? 2 + 1 : 1);
            through(x, "0<00:m0", 0, 0, -1, sorted ? 2 + 1 : 1);
        }
    }

    /** "the greatest of all", "the least of all": of several C about KEY. */
    private static void greatestAndLeastOfAll() {
        StonesAsked x = with(2, 10, 20, 30, 40);
        through(x, "0>a&0>b:n", 15, 25, 2, 2 + 2);
        through(x, "0>a&0>b:n", 25, 15, 2, 2 + 2);
        through(x, "0<a&0<b:n", 25, 15, 1, 3 + 2);
        through(x, "0<a&0<b:n", 15, 25, 1, 3 + 2);
        through(x, "0>a&0=b:n", 15, 20, 1, 3 + 2);
        through(x, "0=a&0<b:n", 20, 25, 1, 3 + 2);
        through(x, "0=a&0>b:n", 20, 19, 1, 3 + 2);
        through(x, "0>a&0=b:n", 20, 20, 0, 2 + 1);
        // LEAST 0, MOST 99, by a C about another field
        through(x, "1>a&1<b:n", 15, 25, 0, 3 + 4);
    }

    /** Where LEAST is above MOST nothing is within: the first one from LEAST on ends it. */
    private static void leastAboveMost() {
        StonesAsked x = with(2, 10, 20, 30, 40);
        through(x, "0=a&0=b:n", 20, 10, 0, 3 + 1);
        through(x, "0=a&0=b:n", 10, 20, 0, 3 + 1);
        through(x, "0>a&0<b:n", 25, 25, 0, 2 + 1);
        through(x, "0>a&0<b:n", 99, 0, 0, 2);
        through(x, "0=a&0=b:n", 50, 10, 0, 2);
    }

    /** "names from it on, 1 LOOK each, the first one beyond MOST too, which ends it." */
    private static void firstOneBeyondMost() {
        StonesAsked x = with(2, 10, 20, 20, 30);
        through(x, "0=a:n", 20, 0, 2, 3 + 3);
        through(x, "0=a:n", 30, 0, 1, 2 + 1);
        through(x, "0<a:n", 20, 0, 1, 3 + 2);
        through(x, "0<a:n", 31, 0, 4, 3 + 4);
        through(x, "0<a:n", 30, 0, 3, 3 + 4);
        through(x, "0=a:n", 9, 0, 0, 3 + 1);
        through(x, "0=a:n", 31, 0, 0, 2);
    }

    /** "the place of LEAST (with number -1)": ahead of all of that KEY, thing 0 too. */
    private static void placeWithNumberBelowAll() {
        for (int kind : new int[] {2, 7}) {
            StonesAsked x = with(kind, 7, 7, 7);
            through(x, "0=a:m0", 7, 0, 0, 2 + 3);
            through(x, "0=a&1=00:n", 7, 0, 3, 2 + 3);
        }
        StonesAsked y = with(7, 7, 7, 7);
        through(y, "0=a:n", 7, 0, 3, 2 + 2);
    }

    /** SUMS: "both ends are found by halves (of LEAST, and of MOST + 1), no name is seen otherwise." */
    private static void sumsOfBothEnds() {
        StonesAsked x = with(7, 0, 99);
        through(x, ":n", 0, 0, 2, 2 + 1);
        through(x, ":s0", 0, 0, 99, 2 + 1);
        through(x, "0=a:n", 0, 0, 1, 2 + 2);
        through(x, "0=a:s0", 99, 0, 99, 2 + 1);
        through(x, "0>a:n", 99, 0, 0, 1 + 1);
        through(x, "0<a:n", 0, 0, 0, 2 + 2);
        through(x, "0<a:s0", 99, 0, 0, 2 + 2);
        // LEAST is above MOST: none, not less than none
        through(x, "0>a&0<b:n", 50, 50, 0, 2 + 2);
        through(x, "0=a&0=b:s0", 99, 0, 0, 2 + 2);
        StonesAsked many = with(7, 10, 20, 30);
        through(many, "0=a&0=b:n", 30, 10, 0, 2 + 2);
        through(many, "0=a:s0", 30, 0, 30, 2 + 2);
        through(many, "0=a:s0", 20, 0, 20, 2 + 2);
        through(many, "0>a:s0", 10, 0, 50, 2 + 2);
        StonesAsked none = with(7);
        through(none, "0=a:s0", 0, 0, 0, 0);
    }

    /** "if all C (of none, too) are about KEY and O is n, or s KEY." */
    private static void sumsJustAsTold() {
        StonesAsked x = with(7, 10, 20, 30);
        through(x, "0>a&0<b&0>a:n", 5, 25, 2, 2 + 2);
        through(x, "0>a&0<b&0>a:s0", 5, 25, 30, 2 + 2);
        through(x, ":n", 0, 0, 3, 2 + 2);
        through(x, ":s0", 0, 0, 60, 2 + 2);
    }

    /** "SUMS: as SORTED": any C about another FIELD, m, x, or s of another FIELD. */
    private static void sumsElseAsSorted() {
        StonesAsked x = with(7, 10, 20, 30);
        through(x, "0>a&1=00:n", 5, 0, 3, 2 + 3);
        through(x, "1=00&0>a:n", 5, 0, 3, 2 + 3);
        through(x, "1=00:s0", 0, 0, 60, 2 + 3);
        through(x, "0>a:s1", 5, 0, 0, 2 + 3);
        through(x, "0>a:m0", 5, 0, 0, 2 + 3);
        through(x, "0>a:x0", 5, 0, 2, 2 + 3);
        through(x, ":m0", 0, 0, 0, 2 + 3);
        through(x, ":s3", 0, 0, 0, 2 + 3);
    }

    /** "TABLE: if some C is = about KEY: the bucket of the first such value, 1 LOOK each name." */
    private static void tableFirstEqual() {
        StonesAsked x = with(4, 8, 16, 24, 9, 17, 7);
        through(x, "0=a&0=b:n", 8, 9, 0, 3);
        through(x, "0=a&0=b:n", 9, 8, 0, 2);
        through(x, "0>a&0=b:n", 0, 7, 1, 1);
        through(x, "1=a&0=b:n", 0, 9, 1, 2);
        through(x, "0=96:n", 0, 0, 0, 3);
        through(x, "0=99:n", 0, 0, 0, 0);
        through(x, "0=a:x0", 24, 0, 2, 3);
    }

    private static void tableEmptyBucket() {
        StonesAsked x = with(4, 1, 2, 3, 4, 5, 6, 7);
        through(x, "0=a:n", 0, 0, 0, 0);
        through(x, "0=a:n", 8, 0, 0, 0);
        through(x, "0=a:m0", 96, 0, -1, 0);
        through(x, "0=a:n", 7, 0, 1, 1);
        through(x, "0=a:n", 95, 0, 0, 1);
    }

    /** "else all buckets in order": no C about KEY, < or >, = about another FIELD. */
    private static void tableElseAll() {
        StonesAsked x = with(4, 8, 16, 9, 7);
        through(x, ":n", 0, 0, 4, 4);
        through(x, "0>a:n", 8, 0, 2, 4);
        through(x, "0<a:n", 8, 0, 1, 4);
        through(x, "1=a:n", 0, 0, 4, 4);
        through(x, "0>a&0<b:n", 8, 10, 1, 4);
    }

    /** TREE: "its lesser side, if its KEY is LEAST or more; .. its greater side, if its KEY is MOST or less." */
    private static void treeSides() {
        StonesAsked x = with(5, 50, 20, 80, 10, 30, 70, 90);
        // LEAST is the root's: its lesser side is gone to (20, and 30, as 20 is below LEAST)
        through(x, "0=a:n", 50, 0, 1, 1 + 2 + 2);
        through(x, "0>a:n", 50, 0, 3, 1 + 3);
        through(x, "0>a:n", 49, 0, 4, 1 + 2 + 3);
        through(x, "0<a:n", 50, 0, 3, 1 + 3);
        through(x, "0<a:n", 51, 0, 4, 1 + 3 + 2);
        through(x, "0=a:n", 10, 0, 1, 3);
        through(x, "0=a:n", 90, 0, 1, 3);
        through(x, "0<a:n", 0, 0, 0, 3);
        through(x, "0>a:n", 99, 0, 0, 3);
        through(x, "1=00:n", 0, 0, 7, 7);
    }

    private static void treeLeastAboveMost() {
        StonesAsked x = with(5, 50, 20, 80);
        // LEAST 81, MOST 19: the root is neither LEAST or more nor MOST or less
        through(x, "0>a&0<b:n", 80, 20, 0, 1);
        // LEAST 50, MOST 50 but nothing there
        through(x, "0>a&0<b:n", 50, 50, 0, 1);
        through(x, "0>a&0<b:n", 49, 50, 0, 2);
        StonesAsked chain = new StonesAsked();
        for (int i = 0; i < 80; i++) {
            chain.put(i, 0, 0, 0);
        }
        chain.stone(5, 0);
        through(chain, ":n", 0, 0, 80, 80);
        through(chain, "0=a:n", 79, 0, 1, 80);
        through(chain, "0=a:n", 0, 0, 1, 2);
    }

    /** BITS: "it answers just asks : n with one C, = about KEY." */
    private static void bitsJustAsTold() {
        StonesAsked x = with(6, 5);
        String[] can = {"0=a:n", "0=b:n", "0=05:n"};
        for (String text : can) {
            int ask = Check.ask(x, text);
            Check.due(text, x.through(0, ask, 5, 5), MAYBE);
        }
        String[] cannot = {":n", "0<a:n", "0>a:n", "1=a:n", "0=a&0=a:n", "0=a&1=b:n", "0=a:s0"};
        for (String text : cannot) {
            int ask = Check.ask(x, text);
            Check.due(text, x.through(0, ask, 5, 5), NOT);
        }
        StonesAsked y = with(6, 5);
        for (String text : new String[] {"1=a&0=b:n", "0=a:m0", "0=a:x0", ":m0"}) {
            int ask = Check.ask(y, text);
            Check.due(text, y.through(0, ask, 5, 5), NOT);
        }
        StonesAsked byOther = Check.withKeys(5);
        byOther.stone(6, 3);
        Check.ask(byOther, "3=a:n");
        Check.due("by field 3", byOther.through(0, 0, 0, 0), MAYBE);
        Check.due("by field 3", byOther.through(0, 0, 5, 0), 0);
    }

    /** "0, if one of both bits of that value is not set; else MAYBE (-6)." */
    private static void bitsZeroOrMaybe() {
        StonesAsked x = with(6);
        Check.ask(x, "0=a:n");
        Check.due("nothing is set", x.through(0, 0, 0, 0), 0);
        Check.due("2 looks", x.looks(), 2);
        x.put(1, 0, 0, 0);
        // bits 7 and 11
        Check.due("both", x.through(0, 0, 1, 0), MAYBE);
        Check.due("2 looks", x.looks(), 2);
        // of 29 they are 11 and 31, of 23: 1 and 29, of 15: 9 and 5
        Check.due("just one", x.through(0, 0, 29, 0), 0);
        Check.due("none", x.through(0, 0, 23, 0), 0);
        Check.due("none", x.through(0, 0, 15, 0), 0);
        Check.due("like one that is there", x.through(0, 0, 97, 0), MAYBE);
        x.take(0);
        Check.due("what went", x.through(0, 0, 1, 0), MAYBE);
        Check.due("which is not there", x.answer(0, 1, 0), 0);
        // 13: 27 and 15; 45: the same
        x.put(45, 0, 0, 0);
        Check.due("like 45", x.through(0, 0, 13, 0), MAYBE);
    }

    /** looks: "of the latest through() that was not refused (NOT is a refusal, MAYBE is not)". */
    private static void notIsARefusal() {
        StonesAsked x = Check.withKeys(1, 2, 3);
        x.stone(1, 0);
        x.stone(0, 0);
        x.stone(6, 0);
        Check.ask(x, "0=a:n");
        Check.ask(x, ":n");
        Check.due("at first", x.looks(), 0);
        Check.due("STONE", x.through(1, 0, 1, 0), NOT);
        Check.due("none yet", x.looks(), 0);
        Check.due("row", x.through(0, 0, 1, 0), 1);
        Check.due("three", x.looks(), 3);
        Check.due("BITS can't", x.through(2, 1, 1, 0), NOT);
        Check.due("three yet", x.looks(), 3);
        Check.due("MAYBE", x.through(2, 0, 1, 0), MAYBE);
        Check.due("two", x.looks(), 2);
        x.take(0);
        x.take(1);
        x.take(2);
        Check.due("row", x.through(0, 0, 1, 0), 0);
        Check.due("none", x.looks(), 0);
    }

    /** What is refused, and what is no through(), leaves looks() as they were. */
    private static void looksStay() {
        Bounds.refused("no stone", World::some, VOID, x -> x.through(8, 0, 0, 0));
        Bounds.refused("no ask", World::some, VOID, x -> x.through(0, 3, 0, 0));
        Bounds.refused("it can't", World::some, NOT, x -> x.through(0, 0, 0, 0));
        Bounds.refused("it can't", World::some, NOT, x -> x.through(6, 1, 0, 0));
        Bounds.refused("firstUnlike", World::some, NOT, x -> x.firstUnlike(0, 5, 0));
        Bounds.refused("answer", World::some, 1, x -> x.answer(0, 5, 0));
        Bounds.refused("goesThrough", World::some, 6, x -> x.goesThrough(255, 0, 100));
        StonesAsked x = World.some();
        Check.due("looks", x.looks(), 3 + 5);
        x.put(50, 50, 1, 50);
        x.take(0);
        x.stone(1, 0);
        Check.due("looks stay", x.looks(), 3 + 5);
    }

    /** "VOID: BAD; NOT: it can't": BAD stands first. */
    private static void badAheadOfNot() {
        for (int stone : new int[] {0, 6}) {
            int of = stone;
            Bounds.refused("it can't", World::some, NOT, x -> x.through(of, 1, 0, 0));
            Bounds.refused("a", World::some, VOID, x -> x.through(of, 1, 100, 0));
            Bounds.refused("a", World::some, VOID, x -> x.through(of, 1, -1, 0));
            Bounds.refused("b", World::some, VOID, x -> x.through(of, 1, 0, 100));
            Bounds.refused("b", World::some, VOID, x -> x.through(of, 1, 0, -1));
            Bounds.refused("ask", World::some, VOID, x -> x.through(of, 3, 0, 0));
        }
    }

    /** firstUnlike: "NOT: none", with none at all, with those that can't, with MAYBE above 0 and for 0. */
    private static void firstUnlikeEdges() {
        StonesAsked x = Check.withKeys(1, 2, 2);
        Check.ask(x, "0=a:n");
        Check.ask(x, ":x0");
        Check.due("no stone", x.firstUnlike(0, 2, 0), NOT);
        Check.due("no ask", x.firstUnlike(2, 2, 0), -1);
        x.stone(0, 0);
        x.stone(6, 0);
        Check.due("STONE and MAYBE", x.firstUnlike(0, 2, 0), NOT);
        Check.due("MAYBE for 0", x.firstUnlike(0, 33, 0), NOT);
        Check.due("0 for 0", x.firstUnlike(0, 3, 0), NOT);
        Check.due("all can't", x.firstUnlike(1, 0, 0), NOT);
        for (int kind = 1; kind <= 7; kind++) {
            x.stone(kind, 0);
        }
        Check.due("all kinds", x.firstUnlike(0, 2, 0), NOT);
        Check.due("all kinds", x.firstUnlike(1, 2, 0), NOT);
        x.take(1);
        x.take(2);
        Check.due("MAYBE for what went", x.firstUnlike(0, 2, 0), NOT);
        x.take(0);
        Check.due("nothing is in", x.firstUnlike(0, 1, 0), NOT);
        Check.due("nothing is in", x.firstUnlike(1, 1, 0), NOT);
        Check.due("no through() yet", x.looks(), 0);
    }

    /** "(each THING seen once)": 80 like ones through each kind. */
    private static void seenOnceEach() {
        for (int kind : new int[] {1, 2, 3, 4, 5, 7}) {
            StonesAsked x = new StonesAsked();
            x.stone(kind, 0);
            for (int i = 0; i < 80; i++) {
                x.put(40, i, 0, 0);
            }
            Check.ask(x, "0=40&1>a:n");
            Check.ask(x, "0=40:s1");
            Check.ask(x, ":x1");
            Check.due("n", x.through(0, 0, 39, 0), 40);
            Check.due("all seen", x.looks() >= 80 ? 1 : 0, 1);
            Check.due("s", x.through(0, 1, 0, 0), 79 * 40);
            Check.due("x", x.through(0, 2, 0, 0), 79);
        }
    }

    /** "what THE ANSWER would be": by each value from 0 to 99, each sign, each kind. */
    private static void allValuesThroughAll() {
        for (String text : new String[] {"0=a:n", "0<a:s0", "0>a:m0", "0>a:x1", "0<a&0>b:n"}) {
            StonesAsked x = Check.withKeys(0, 1, 50, 98, 99, 99, 0, 50);
            Check.ask(x, text);
            for (int kind = 1; kind <= 7; kind++) {
                x.stone(kind, 0);
            }
            for (int v = 0; v <= 99; v += v < 3 || v >= 96 || v >= 48 && v < 52 ? 1 : 9) {
                int due = x.answer(0, v, 3);
                for (int kind = 1; kind <= 7; kind++) {
                    int got = x.through(kind - 1, 0, v, 3);
                    boolean free = kind == 6 && (got == NOT || got == MAYBE);
                    Check.due(text + " by " + v + ", kind " + kind, free ? due : got, due);
                }
            }
        }
    }
}
