/** Promises 11 to 16: stones, their looks, and asks through them. */
public final class StonesTest {
    private static final int[] ALL_KINDS = {0, 1, 2, 3, 4, 5, 6, 7};

    public static void main(String[] args) {
        made();
        ofStone();
        rows();
        sorted();
        heaps();
        tables();
        trees();
        bits();
        filled();
        throughRowsAndHeaps();
        throughOrders();
        throughSums();
        throughTables();
        throughTrees();
        throughBits();
        refused();
        firstUnlike();
        allRoomIsUsed();
        Check.end();
    }

    private static void made() {
        StonesAsked x = new StonesAsked();
        Check.due("kind below", x.stone(-1, 0), -1);
        Check.due("kind above", x.stone(8, 0), -1);
        Check.due("key below", x.stone(0, -1), -1);
        Check.due("key above", x.stone(0, 4), -1);
        for (int i = 0; i < 10; i++) {
            Check.due("stone", x.stone(i % 8, i % 4), i);
        }
        Check.due("full", x.stone(1, 0), -3);
        Check.due("bad stands first", x.stone(8, 0), -1);
        for (int i = 0; i < 10; i++) {
            Check.due("kind", x.ofStone(i, 0), i % 8);
            Check.due("key", x.ofStone(i, 1), i % 4);
        }
    }

    private static void ofStone() {
        StonesAsked x = Check.withKeys(1, 2);
        x.stone(1, 0);
        Check.due("no stone", x.ofStone(1, 0), -1);
        Check.due("no stone", x.ofStone(-1, 0), -1);
        Check.due("no what", x.ofStone(0, 5), -1);
        Check.due("no what", x.ofStone(0, -1), -1);
        Check.due("names", x.ofStone(0, 2), 2);
        StonesAsked none = new StonesAsked();
        for (int kind : ALL_KINDS) {
            none.stone(kind, 0);
            for (int what = 2; what <= 4; what++) {
                Check.due("of one that is empty", none.ofStone(kind, what), 0);
            }
        }
        none.put(100, 0, 0, 0);
        Check.due("nothing was put", none.ofStone(1, 4), 0);
    }

    /** The latest looks, and all looks, of stone 0. */
    private static void looks(StonesAsked x, String call, int latest, int all) {
        Check.due(call + ": latest looks", x.ofStone(0, 4), latest);
        Check.due(call + ": all looks", x.ofStone(0, 3), all);
    }

    private static void rows() {
        StonesAsked x = Check.withKeys(5, 3, 9);
        x.stone(1, 0);
        looks(x, "row", 1, 3);
        Check.names("row", x, 0, "0 1 2");
        x.put(1, 0, 0, 0);
        looks(x, "row put", 1, 4);
        x.take(1);
        looks(x, "row take", 2, 6);
        Check.names("row take", x, 0, "0 2 3");
        x.take(3);
        looks(x, "row take last", 3, 9);
        Check.names("row", x, 0, "0 2");
        Check.due("beyond", x.nameAt(0, 2), -1);
        Check.due("below", x.nameAt(0, -1), -1);
        Check.due("no stone", x.nameAt(1, 0), -1);
        Check.due("no stone", x.nameAt(-1, 0), -1);
    }

    private static void sorted() {
        StonesAsked x = Check.withKeys(50, 20, 80);
        x.stone(2, 0);
        // 0; 1 look and 1 moved; 1 look (the middle of 2 is 1) and none moved
        looks(x, "sorted", 1, 3);
        Check.names("sorted", x, 0, "1 0 2");
        x.put(20, 0, 0, 0);
        // middle 1 (50), then 0 (20, number 1 comes ahead): 2 looks, 2 moved
        looks(x, "sorted put", 4, 7);
        Check.names("sorted put", x, 0, "1 3 0 2");
        x.take(1);
        // middles 2, 1, 0 and 3 behind it
        looks(x, "sorted take", 6, 13);
        x.take(2);
        // of 3, 0, 2: middles 1, 2 and none behind it
        looks(x, "sorted take last", 2, 15);
        Check.names("sorted", x, 0, "3 0");
        StonesAsked y = Check.withKeys(7, 7, 7);
        y.stone(7, 0);
        y.stone(2, 1);
        Check.names("like ones by number", y, 0, "0 1 2");
        Check.due("looks of sums", y.ofStone(0, 3), 2);
        y.take(0);
        Check.due("looks of a take from sums", y.ofStone(0, 4), 4);
        Check.names("by another key", y, 1, "1 2");
    }

    private static void heaps() {
        StonesAsked x = Check.withKeys(50, 30, 40);
        x.stone(3, 0);
        looks(x, "heap", 1, 2);
        Check.names("heap", x, 0, "1 0 2");
        x.put(10, 0, 0, 0);
        // two comparings up to the top
        looks(x, "heap put", 2, 4);
        Check.names("heap put", x, 0, "3 1 2 0");
        x.put(30, 0, 0, 0);
        // like the one above with a lesser number: stays
        looks(x, "heap put like", 1, 5);
        Check.names("heap put like", x, 0, "3 1 2 0 4");
        x.take(3);
        // 1 to find it; 4 comes on top; both below 1 (30) is less than 2 (40), and than 4 by number;
        // then the only one below (50) is not less
        looks(x, "heap take top", 1 + 2 + 1, 9);
        Check.names("heap take top", x, 0, "1 4 2 0");
        x.take(0);
        looks(x, "heap take last", 4, 13);
        Check.names("heap take last", x, 0, "1 4 2");
        StonesAsked y = Check.withKeys(1, 10, 2, 11, 12, 3, 4);
        y.stone(3, 0);
        Check.names("as put", y, 0, "0 1 2 3 4 5 6");
        y.take(3);
        // 4 to find it; 6 (4) comes there, 1 look up: less than 10; then 1 look: not less than 1
        looks(y, "heap take, rising", 4 + 2, 6 + 6);
        Check.names("heap take, rising", y, 0, "0 6 2 1 4 5");
    }

    private static void tables() {
        StonesAsked x = Check.withKeys(8, 1, 16, 0, 9, 7);
        x.stone(4, 0);
        looks(x, "table", 1, 6);
        Check.names("table", x, 0, "0 2 3 1 4 5");
        x.take(3);
        looks(x, "table take", 3, 9);
        x.take(4);
        looks(x, "table take", 2, 11);
        x.take(5);
        looks(x, "table take", 1, 12);
        Check.names("table", x, 0, "0 2 1");
        x.put(24, 0, 0, 0);
        Check.names("table put", x, 0, "0 2 6 1");
        Check.due("names", x.ofStone(0, 2), 4);
        Check.due("beyond", x.nameAt(0, 4), -1);
    }

    private static void trees() {
        StonesAsked x = Check.withKeys(50, 20, 80, 70, 90, 75, 50);
        x.stone(5, 0);
        // knots on the ways: 0, 1, 1, 2, 2, 3, 3 (a like one of a greater number is greater)
        looks(x, "tree", 3, 12);
        Check.names("tree", x, 0, "1 0 6 3 5 2 4");
        x.take(0);
        // the root; its heir is 6, gone to by 80, 70, 50
        looks(x, "tree take two below", 1 + 3, 16);
        Check.names("tree", x, 0, "1 6 3 5 2 4");
        x.take(2);
        // root, 80; both below; heir 90 at once
        looks(x, "tree take, heir at once", 2 + 1, 19);
        Check.names("tree", x, 0, "1 6 3 5 4");
        x.take(3);
        // root 6, 90, 70: one below
        looks(x, "tree take one below", 3, 22);
        x.take(5);
        looks(x, "tree take leaf", 3, 25);
        Check.names("tree", x, 0, "1 6 4");
        x.take(6);
        looks(x, "tree take root", 2, 27);
        x.take(1);
        // 4 is the root now
        looks(x, "tree take", 2, 29);
        x.take(4);
        looks(x, "tree take all", 1, 30);
        Check.due("empty", x.nameAt(0, 0), -1);
        x.put(3, 0, 0, 0);
        looks(x, "tree put anew", 0, 30);
        Check.names("tree", x, 0, "7");
        Check.due("below", x.nameAt(0, -1), -1);
        StonesAsked chain = new StonesAsked();
        chain.stone(5, 0);
        for (int i = 0; i < 80; i++) {
            chain.put(i, 0, 0, 0);
            Check.due("a chain", chain.ofStone(0, 4), i);
        }
        Check.due("its last one", chain.nameAt(0, 79), 79);
        chain.take(79);
        Check.due("to its end", chain.ofStone(0, 4), 80);
    }

    private static void bits() {
        StonesAsked x = Check.withKeys(0, 1, 2);
        x.stone(6, 0);
        // bits 0; 7 and 11; 14 and 22
        Check.due("bits set", x.ofStone(0, 2), 5);
        looks(x, "bits", 2, 6);
        x.take(1);
        looks(x, "bits take", 1, 7);
        Check.due("nothing is cleared", x.ofStone(0, 2), 5);
        Check.due("no names", x.nameAt(0, 0), -1);
        x.put(33, 0, 0, 0);
        // 231 % 32 and 363 % 32 are 7 and 11 again
        Check.due("bits set before", x.ofStone(0, 2), 5);
        looks(x, "bits put", 2, 9);
        StonesAsked y = Check.withKeys(1);
        y.stone(6, 0);
        y.stone(0, 0);
        Check.due("made later: just what is in", y.ofStone(0, 2), 2);
        Check.due("STONE has no names", y.nameAt(1, 0), -1);
        Check.due("STONE has none", y.ofStone(1, 2), 0);
    }

    private static void filled() {
        StonesAsked x = Check.withKeys(5, 6, 7, 8);
        x.take(1);
        for (int kind : ALL_KINDS) {
            x.stone(kind, 0);
        }
        Check.names("filled", x, 1, "0 2 3");
        Check.names("filled", x, 5, "0 2 3");
        Check.due("row: all looks", x.ofStone(1, 3), 3);
        Check.due("tree: all looks", x.ofStone(5, 3), 3);
        Check.due("tree: latest looks", x.ofStone(5, 4), 2);
        Check.due("bits: all looks", x.ofStone(6, 3), 6);
        Check.due("stone: all looks", x.ofStone(0, 3), 0);
        x.take(1);
        Check.due("a refused take is none", x.ofStone(5, 4), 2);
    }

    private static void through(StonesAsked x, String text, int a, int b, int answer, int looks) {
        int ask = Check.ask(x, text);
        Check.due("answer of " + text, x.answer(ask, a, b), answer);
        Check.due("through " + text, x.through(0, ask, a, b), answer);
        Check.due("looks of " + text, x.looks(), looks);
    }

    private static StonesAsked withStone(int kind, int... keys) {
        StonesAsked x = Check.withKeys(keys);
        x.stone(kind, 0);
        return x;
    }

    private static void throughRowsAndHeaps() {
        StonesAsked x = withStone(1, 5, 3, 9, 3);
        through(x, ":m0", 0, 0, 1, 4);
        through(x, "0=a:n", 3, 0, 2, 4);
        through(x, ":x0", 0, 0, 2, 4);
        StonesAsked y = withStone(3, 5, 3, 9, 3);
        through(y, ":m0", 0, 0, 1, 1);
        through(y, ":m1", 0, 0, 0, 4);
        through(y, "0>00:m0", 0, 0, 1, 4);
        through(y, ":x0", 0, 0, 2, 4);
        through(y, ":n", 0, 0, 4, 4);
        StonesAsked one = withStone(3, 5);
        through(one, ":m0", 0, 0, 0, 1);
        StonesAsked none = withStone(3);
        through(none, ":m0", 0, 0, -1, 0);
        through(none, ":n", 0, 0, 0, 0);
    }

    private static void throughOrders() {
        // in order 10 20 30 40 50 60 70
        StonesAsked x = withStone(2, 40, 20, 60, 10, 30, 50, 70);
        through(x, "0=a:n", 30, 0, 1, 3 + 2);
        through(x, "0>a:s0", 50, 0, 130, 3 + 2);
        through(x, "0<a:x0", 30, 0, 1, 3 + 3);
        through(x, "0>a&0<b:n", 15, 45, 3, 3 + 4);
        through(x, "0>a&0=b:n", 50, 20, 0, 3 + 1);
        through(x, "0>a:n", 99, 0, 0, 3);
        through(x, "0<00:n", 0, 0, 0, 3 + 1);
        through(x, ":m0", 0, 0, 3, 3 + 7);
        through(x, "1=00:n", 0, 0, 7, 3 + 7);
        StonesAsked y = withStone(2, 7, 7, 7);
        // of like ones the least number, whatever comes first by the key
        y.put(3, 0, 0, 0);
        through(y, ":m1", 0, 0, 0, 3 + 4);
        through(y, ":x1", 0, 0, 0, 3 + 4);
    }

    private static void throughSums() {
        StonesAsked x = withStone(7, 40, 20, 60, 10, 30, 50, 70);
        through(x, ":n", 0, 0, 7, 6);
        through(x, ":s0", 0, 0, 280, 6);
        through(x, "0>a&0<b:s0", 15, 45, 90, 6);
        through(x, "0=a:n", 30, 0, 1, 6);
        through(x, "0>a&0=b:n", 50, 20, 0, 6);
        through(x, "0>a&0<b:s0", 60, 20, 0, 6);
        through(x, "0=a:s1", 30, 0, 0, 3 + 2);
        through(x, ":m0", 0, 0, 3, 3 + 7);
        through(x, "0=a&1=00:n", 30, 0, 1, 3 + 2);
        x.take(0);
        Check.due("sums follow", x.through(0, 1, 0, 0), 240);
        x.put(1, 0, 0, 0);
        Check.due("sums follow", x.through(0, 1, 0, 0), 241);
        Check.due("sums follow", x.through(0, 2, 15, 45), 50);
    }

    private static void throughTables() {
        StonesAsked x = withStone(4, 8, 1, 16, 0, 9, 7);
        through(x, "0=a:n", 16, 0, 1, 3);
        through(x, "0=a&0=b:n", 16, 1, 0, 3);
        through(x, "0=a&0=b:n", 1, 16, 0, 2);
        through(x, "0>a&0=b:m0", 0, 7, 5, 1);
        through(x, "0=a:n", 2, 0, 0, 0);
        through(x, "0>a:n", 7, 0, 3, 6);
        through(x, "1=00:n", 0, 0, 6, 6);
        through(x, ":m0", 0, 0, 3, 6);
    }

    private static void throughTrees() {
        StonesAsked x = withStone(5, 40, 20, 60, 10, 30, 50, 70);
        through(x, ":n", 0, 0, 7, 7);
        // 40, 20 (its lesser side is left out: below 30), 30, and nothing beyond
        through(x, "0=a:n", 30, 0, 1, 3);
        // at a knot of just that key both sides are gone to: 40, 20, 10, 30
        through(x, "0=a:n", 20, 0, 1, 4);
        through(x, "0>a:s0", 50, 0, 130, 4);
        // LEAST is 51, MOST 20: from the root to neither side
        through(x, "0>a&0=b:n", 50, 20, 0, 1);
        StonesAsked y = withStone(5, 7, 7, 7);
        through(y, "0=a:n", 7, 0, 3, 3);
        through(y, "0=a:n", 8, 0, 0, 3);
        through(y, "0=a:n", 6, 0, 0, 1);
        StonesAsked none = withStone(5);
        through(none, ":x0", 0, 0, -1, 0);
    }

    private static void throughBits() {
        StonesAsked x = withStone(6, 1, 2);
        int one = Check.ask(x, "0=a:n");
        Check.due("bits not set", x.through(0, one, 3, 0), 0);
        Check.due("looks", x.looks(), 2);
        Check.due("bits set", x.through(0, one, 1, 0), -6);
        Check.due("bits set by a like one", x.through(0, one, 33, 0), -6);
        Check.due("which is not there", x.answer(one, 33, 0), 0);
        x.take(0);
        Check.due("nothing is cleared", x.through(0, one, 1, 0), -6);
        String[] cannot = {":n", "0>a:n", "1=a:n", "0=a:m0", "0=a:s0", "0=a&0=a:n"};
        for (String text : cannot) {
            int ask = Check.ask(x, text);
            Check.due("bits can't " + text, x.through(0, ask, 1, 0), -2);
            Check.due("and have no price for " + text, x.price(0, ask, 9), -2);
        }
        int number = Check.ask(x, "0=02:n");
        Check.due("bits by a number", x.through(0, number, 0, 0), -6);
        StonesAsked half = withStone(6, 1);
        half.put(4, 0, 0, 0);
        // bits 7, 11; 28, 12; of 5 they would be 3, 23; of 16: 16, 16
        int ask = Check.ask(half, "0=a:n");
        Check.due("half", half.through(0, ask, 33, 0), -6);
        // 65 * 7 % 32 is 7, 65 * 11 % 32 is 11; 12 * 7 % 32 is 20, 12 * 11 % 32 is 4
        Check.due("half", half.through(0, ask, 65, 0), -6);
        Check.due("half", half.through(0, ask, 12, 0), 0);
        // 25 * 7 % 32 is 15, 25 * 11 % 32 is 19; 17 * 7 % 32 is 23, 17 * 11 % 32 is 27
        Check.due("half", half.through(0, ask, 25, 0), 0);
    }

    private static void refused() {
        StonesAsked x = Check.withKeys(1, 2, 3);
        x.stone(1, 0);
        x.stone(0, 0);
        int ask = Check.ask(x, ":n");
        Check.due("looks at first", x.looks(), 0);
        Check.due("through", x.through(0, ask, 0, 0), 3);
        Check.due("looks", x.looks(), 3);
        Check.due("STONE can't", x.through(1, ask, 0, 0), -2);
        Check.due("no stone", x.through(2, ask, 0, 0), -2000000000);
        Check.due("no stone", x.through(-1, ask, 0, 0), -2000000000);
        Check.due("no ask", x.through(0, 1, 0, 0), -2000000000);
        Check.due("no ask", x.through(0, -1, 0, 0), -2000000000);
        Check.due("a", x.through(0, ask, 100, 0), -2000000000);
        Check.due("a", x.through(0, ask, -1, 0), -2000000000);
        Check.due("b", x.through(0, ask, 0, 100), -2000000000);
        Check.due("b", x.through(0, ask, 0, -1), -2000000000);
        Check.due("BAD stands ahead of NOT", x.through(1, ask, 0, 100), -2000000000);
        Check.due("looks stay", x.looks(), 3);
        x.put(4, 0, 0, 0);
        x.answer(ask, 0, 0);
        x.firstUnlike(ask, 0, 0);
        Check.due("looks stay", x.looks(), 3);
        Check.due("puts are counted for themselves", x.ofStone(0, 4), 1);
    }

    private static void allRoomIsUsed() {
        StonesAsked x = new StonesAsked();
        for (int i = 0; i < 10; i++) {
            x.stone(i % 8, 0);
            Check.ask(x, i == 0 ? ":s0" : ":n");
        }
        for (int i = 0; i < 80; i++) {
            x.put(i * 37 % 80, 0, 0, 0);
        }
        for (int kind : ALL_KINDS) {
            boolean names = kind != 0 && kind != 6;
            Check.due("all names", x.ofStone(kind, 2), names ? 80 : kind == 0 ? 0 : 32);
            Check.due("all seen by kind " + kind, x.through(kind, 0, 0, 0), names ? 79 * 80 / 2 : -2);
            Check.due("the last name of kind " + kind, x.nameAt(kind, 79) >= 0 ? 1 : 0, names ? 1 : 0);
            Check.due("no name behind it", x.nameAt(kind, 80), -1);
        }
        Check.due("no stone 10", x.ofStone(10, 0), -1);
        Check.due("no stone 10", x.through(10, 0, 0, 0), -2000000000);
        Check.due("no ask 10", x.answer(10, 0, 0), -2000000000);
        Check.due("no ask 10", x.often(10, 0), -1);
        Check.due("no thing 80", x.of(80, 0), -1);
        Check.due("no thing 80", x.take(80), -1);
        Check.due("no plan", x.plan(1024, 1, 1), -1);
        Check.due("all stones", x.plan(1023, 1, 1), 9 + 1 + 0 + 1 + 1 + 1 + 1 + 2 + 2 + 1 + 0 + 1);
        for (int i = 79; i >= 0; i--) {
            x.take(i);
        }
        for (int kind : ALL_KINDS) {
            Check.due("none is left", x.ofStone(kind, 2), kind == 6 ? 32 : 0);
        }
    }

    private static void firstUnlike() {
        StonesAsked x = Check.withKeys(1, 2, 3, 3);
        int ask = Check.ask(x, "0=a:n");
        Check.due("no stone", x.firstUnlike(ask, 3, 0), -2);
        for (int kind : ALL_KINDS) {
            x.stone(kind, 0);
        }
        Check.due("none", x.firstUnlike(ask, 3, 0), -2);
        Check.due("none, with MAYBE for 0", x.firstUnlike(ask, 33, 0), -2);
        Check.due("none, of none", x.firstUnlike(ask, 9, 0), -2);
        Check.due("no ask", x.firstUnlike(1, 0, 0), -1);
        Check.due("no ask", x.firstUnlike(-1, 0, 0), -1);
        Check.due("a", x.firstUnlike(ask, 100, 0), -1);
        Check.due("a", x.firstUnlike(ask, -1, 0), -1);
        Check.due("b", x.firstUnlike(ask, 0, 100), -1);
        Check.due("b", x.firstUnlike(ask, 0, -1), -1);
    }
}
