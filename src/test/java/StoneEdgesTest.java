/** Terms 2, stones, and promises 11 to 13: a test for each sentence that names an edge. */
public final class StoneEdgesTest {
    public static void main(String[] args) {
        tenStones();
        eachKindByEachKey();
        filledWhenTheyCome();
        emptyOnes();
        allFollowAtOnce();
        looksAtFirst();
        refusedPutsAndTakes();
        rowEdges();
        sortedEdges();
        sortedAgainstHalves();
        heapEdges();
        heapOfFullRoom();
        tableBuckets();
        tableEdges();
        treeEdges();
        treeHeirs();
        bitsOfEachValue();
        bitsEdges();
        sumsEdges();
        namesAtTheirEdges();
        Check.end();
    }

    private static StonesAsked with(int kind, int... keys) {
        StonesAsked x = new StonesAsked();
        x.stone(kind, 0);
        for (int key : keys) {
            x.put(key, 0, 0, 0);
        }
        return x;
    }

    /** LOOKS of the latest put or take of stone 0, and its names. */
    private static void now(StonesAsked x, String call, int looks, String names) {
        Check.due(call + ": looks", x.ofStone(0, 4), looks);
        Check.names(call, x, 0, names);
    }

    /** "STONES 0 .. 9, as they come"; refused ones take no number. */
    private static void tenStones() {
        StonesAsked x = new StonesAsked();
        for (int i = 0; i < 10; i++) {
            Check.due("refused", x.stone(8, 0), -1);
            Check.due("stone", x.stone(i == 9 ? 1 : 2, 0), i);
            Check.due("stones", x.count(3), i + 1);
        }
        Check.due("the tenth is there", x.ofStone(9, 0), 1);
        for (int kind = 0; kind < 8; kind++) {
            int of = kind;
            Bounds.refused("the 11th of kind " + kind, World::full, -3, y -> y.stone(of, 0));
            Bounds.refused("BAD stands ahead of FULL", World::full, -1, y -> y.stone(of, 4));
        }
        Bounds.refused("BAD stands ahead of FULL", World::full, -1, y -> y.stone(8, 0));
    }

    /** KINDS 0 to 7, KEYS 0 to 3. */
    private static void eachKindByEachKey() {
        for (int kind = 0; kind < 8; kind++) {
            StonesAsked x = new StonesAsked();
            x.put(3, 2, 1, 0);
            x.put(0, 1, 2, 3);
            for (int key = 0; key < 4; key++) {
                Check.due("stone", x.stone(kind, key), key);
                Check.due("kind", x.ofStone(key, 0), kind);
                Check.due("key", x.ofStone(key, 1), key);
                boolean names = kind != 0 && kind != 6;
                // by fields 0 and 1 thing 1 is the lesser one, and in a table it is in the lesser bucket
                int first = !names ? -1 : kind == 1 || key >= 2 ? 0 : 1;
                Check.due("first, kind " + kind + " by " + key, x.nameAt(key, 0), first);
            }
        }
    }

    /** "A STONE is filled when it comes: all THINGS that are IN, by numbers, are put." */
    private static void filledWhenTheyCome() {
        for (int kind = 0; kind < 8; kind++) {
            StonesAsked late = Check.withKeys(30, 10, 20, 40, 10);
            late.take(0);
            late.take(3);
            late.stone(kind, 0);
            StonesAsked early = with(kind, 10, 20, 10);
            for (int what = 2; what <= 4; what++) {
                Check.due("kind " + kind + ", what " + what, late.ofStone(0, what), early.ofStone(0, what));
            }
            for (int i = 0; i < 3; i++) {
                int name = early.nameAt(0, i);
                int[] numbers = {1, 2, 4};
                Check.due("kind " + kind + " at " + i, late.nameAt(0, i), name < 0 ? -1 : numbers[name]);
            }
        }
    }

    /** With nothing IN all that a STONE tells is 0, and it has no name. */
    private static void emptyOnes() {
        for (int kind = 0; kind < 8; kind++) {
            StonesAsked gone = Check.withKeys(5);
            gone.take(0);
            for (StonesAsked x : new StonesAsked[] {new StonesAsked(), gone}) {
                x.stone(kind, 1);
                Check.due("key", x.ofStone(0, 1), 1);
                for (int what = 2; what <= 4; what++) {
                    Check.due("kind " + kind + ", what " + what, x.ofStone(0, what), 0);
                }
                Check.due("no name", x.nameAt(0, 0), -1);
            }
        }
    }

    /** "THINGS put and taken later are so in each STONE at once": in the first and in the tenth. */
    private static void allFollowAtOnce() {
        int[] putLooks = {0, 1, 0, 0, 1, 0, 2, 0};
        int[] takeLooks = {0, 1, 1, 1, 1, 1, 1, 1};
        for (int kind = 0; kind < 8; kind++) {
            StonesAsked x = new StonesAsked();
            for (int i = 0; i < 10; i++) {
                x.stone(i == 0 || i == 9 ? kind : 0, 0);
            }
            x.put(5, 0, 0, 0);
            for (int stone = 0; stone < 10; stone += 9) {
                Check.due("put, kind " + kind, x.ofStone(stone, 4), putLooks[kind]);
                Check.due("size, kind " + kind, x.ofStone(stone, 2), kind == 0 ? 0 : kind == 6 ? 2 : 1);
            }
            x.take(0);
            for (int stone = 0; stone < 10; stone += 9) {
                Check.due("take, kind " + kind, x.ofStone(stone, 4), takeLooks[kind]);
                Check.due("all, kind " + kind, x.ofStone(stone, 3), putLooks[kind] + takeLooks[kind]);
                Check.due("size, kind " + kind, x.ofStone(stone, 2), kind == 6 ? 2 : 0);
            }
        }
    }

    /** "4 LOOKS of the latest put or take (filling too; 0: none)." */
    private static void looksAtFirst() {
        StonesAsked x = Check.withKeys(1, 2, 3);
        int[] latest = {0, 1, 1, 1, 1, 2, 2, 1};
        int[] all = {0, 3, 2, 2, 3, 3, 6, 2};
        for (int kind = 0; kind < 8; kind++) {
            x.stone(kind, 0);
            Check.due("latest of filling, kind " + kind, x.ofStone(kind, 4), latest[kind]);
            Check.due("all of filling, kind " + kind, x.ofStone(kind, 3), all[kind]);
        }
    }

    /** What is refused puts and takes nothing in a STONE. */
    private static void refusedPutsAndTakes() {
        Bounds.refused("put", World::some, -1, x -> x.put(100, 0, 0, 0));
        Bounds.refused("put", World::some, -5, x -> x.put(0, 0, 0, 10));
        Bounds.refused("put", World::full, -3, x -> x.put(80, 0, 0, 0));
        Bounds.refused("take", World::some, -2, x -> x.take(2));
        Bounds.refused("take", World::some, -1, x -> x.take(6));
    }

    /** ROW: "as many as stand up to it (it, too); those behind move up." */
    private static void rowEdges() {
        StonesAsked x = with(1, 9, 8, 7, 6);
        now(x, "put", 1, "0 1 2 3");
        x.take(3);
        now(x, "the last", 4, "0 1 2");
        x.take(0);
        now(x, "the first", 1, "1 2");
        x.take(2);
        now(x, "the last of two", 2, "1");
        x.take(1);
        now(x, "the only one", 1, "");
        x.put(5, 0, 0, 0);
        now(x, "put again", 1, "4");
    }

    /** SORTED: put and taken at both ends; "of like ones by number". */
    private static void sortedEdges() {
        StonesAsked x = with(2, 50);
        now(x, "into nothing", 0, "0");
        x.put(99, 0, 0, 0);
        now(x, "behind one", 1, "0 1");
        x.put(0, 0, 0, 0);
        now(x, "ahead of two: middles 1, 0", 2 + 2, "2 0 1");
        x.put(99, 0, 0, 0);
        now(x, "behind a like one: middles 1, 2", 2, "2 0 1 3");
        x.put(0, 0, 0, 0);
        now(x, "behind a like one: middles 2, 1, 0", 3 + 3, "2 4 0 1 3");
        x.take(3);
        now(x, "the last: middles 2, 4, 3", 3, "2 4 0 1");
        x.take(2);
        now(x, "the first: middles 2, 1, 0", 3 + 3, "4 0 1");
        x.take(4);
        x.take(1);
        now(x, "the last of two: middles 1, 0", 2, "0");
        x.take(0);
        now(x, "the only one", 1, "");
    }

    /** A place found by halves, at each place of each size: the LOOKS again, by halves of low and high. */
    private static void sortedAgainstHalves() {
        for (int kind : new int[] {2, 7}) {
            for (int size = 0; size <= 40; size++) {
                for (int place = 0; place <= size; place += 1 + size / 12) {
                    StonesAsked x = new StonesAsked();
                    x.stone(kind, 0);
                    for (int i = 0; i < size; i++) {
                        x.put(1 + 2 * i, 0, 0, 0);
                    }
                    x.put(2 * place, 0, 0, 0);
                    Check.due("put at " + place + " of " + size, x.ofStone(0, 4), halves(0, size, place) + size - place);
                    x.take(size);
                    Check.due("take at " + place + " of " + size, x.ofStone(0, 4),
                            halves(0, size + 1, place) + size - place);
                }
            }
        }
    }

    private static int halves(int low, int high, int place) {
        if (low >= high) {
            return 0;
        }
        int middle = (low + high) / 2;
        return 1 + (middle < place ? halves(middle + 1, high, place) : halves(low, middle, place));
    }

    /** HEAP: "if it is not the last", both below or one, like ones by number. */
    private static void heapEdges() {
        StonesAsked x = with(3, 5);
        now(x, "into nothing", 0, "0");
        x.put(5, 0, 0, 0);
        now(x, "a like one stays below", 1, "0 1");
        x.take(1);
        now(x, "the last: nothing comes in its place", 2, "0");
        x.take(0);
        now(x, "the only one", 1, "");
        StonesAsked two = with(3, 1, 2);
        two.take(0);
        now(two, "the top of two: nothing is below", 1, "1");
        StonesAsked three = with(3, 1, 2, 3);
        three.take(0);
        now(three, "the top of three: one below", 1 + 1, "1 2");
        StonesAsked four = with(3, 1, 2, 3, 4);
        four.take(0);
        now(four, "the top of four: both below, then none", 1 + 2, "1 3 2");
        StonesAsked five = with(3, 1, 2, 9, 3, 8);
        five.take(0);
        now(five, "the top of five: both below, then one", 1 + 2 + 1, "1 3 2 4");
        StonesAsked like = with(3, 4, 4, 4, 4);
        like.take(0);
        now(like, "of like ones the least number: 3 goes below 1", 1 + 2, "1 3 2");
        StonesAsked up = with(3, 1, 50, 2, 60, 70, 3, 4);
        up.take(3);
        now(up, "the last one rises to place 1", 4 + 2, "0 6 2 1 4 5");
        StonesAsked still = with(3, 1, 2, 3, 4, 5, 6);
        still.take(1);
        now(still, "up: 1 look; then one below: 1 look for 4", 2 + 1 + 2, "0 3 2 5 4");
    }

    /** A heap of 80, taken from its top to nothing, is in order. */
    private static void heapOfFullRoom() {
        StonesAsked x = new StonesAsked();
        x.stone(3, 0);
        for (int i = 0; i < 80; i++) {
            x.put(79 - i, 0, 0, 0);
            Check.due("rises to the top: " + i, x.nameAt(0, 0), i);
        }
        Check.due("the last rose by six", x.ofStone(0, 4), 6);
        for (int i = 79; i >= 0; i--) {
            Check.due("the top", x.nameAt(0, 0), i);
            Check.due("size", x.ofStone(0, 2), i + 1);
            x.take(i);
        }
        Check.due("nothing", x.ofStone(0, 2), 0);
        Check.due("one look for the last one", x.ofStone(0, 4), 1);
    }

    /** "8 buckets by KEY % 8": of all values. */
    private static void tableBuckets() {
        for (int v = 0; v <= 99; v++) {
            StonesAsked x = with(4, v, 0, 1, 2, 3, 4, 5, 6, 7);
            x.put(v % 8, 0, 0, 0);
            int place = v % 8;
            Check.due("the first of its bucket, " + v, x.nameAt(0, place), 0);
            Check.due("the second, " + v, x.nameAt(0, place + 1), 1 + v % 8);
            Check.due("the third, " + v, x.nameAt(0, place + 2), 9);
            x.take(1 + v % 8);
            Check.due("the second of its bucket", x.ofStone(0, 4), 2);
            x.take(9);
            Check.due("the second now", x.ofStone(0, 4), 2);
            x.take(0);
            Check.due("the first", x.ofStone(0, 4), 1);
        }
    }

    /** TABLE: "Put 1; take: as in the bucket." */
    private static void tableEdges() {
        StonesAsked x = with(4, 7, 8, 15, 16);
        now(x, "put", 1, "1 3 0 2");
        x.take(2);
        now(x, "the last of the last bucket", 2, "1 3 0");
        x.take(0);
        now(x, "the only one of its bucket", 1, "1 3");
        x.take(1);
        now(x, "the first of its bucket", 1, "3");
        x.take(3);
        now(x, "the only one", 1, "");
        x.put(99, 0, 0, 0);
        now(x, "put again", 1, "4");
    }

    /** TREE: into nothing, like ones by number, the only one. */
    private static void treeEdges() {
        StonesAsked x = with(5, 5);
        now(x, "into nothing", 0, "0");
        x.put(5, 0, 0, 0);
        now(x, "a like one of a greater number", 1, "0 1");
        x.put(5, 0, 0, 0);
        now(x, "and one more", 2, "0 1 2");
        x.take(0);
        now(x, "the root, with one below", 1, "1 2");
        x.take(2);
        now(x, "the last", 2, "1");
        x.take(1);
        now(x, "the only one", 1, "");
        StonesAsked down = new StonesAsked();
        down.stone(5, 0);
        for (int i = 0; i < 80; i++) {
            down.put(79 - i, 0, 0, 0);
            Check.due("a chain to the lesser side", down.ofStone(0, 4), i);
        }
        Check.due("its first one", down.nameAt(0, 0), 79);
        Check.due("its last one", down.nameAt(0, 79), 0);
        down.take(79);
        Check.due("to its end", down.ofStone(0, 4), 80);
    }

    /** TREE: "one with two below: the least knot of the greater side comes in its place." */
    private static void treeHeirs() {
        StonesAsked both = with(5, 50, 20, 80);
        both.take(0);
        now(both, "the one on the greater side itself", 1 + 1, "1 2");
        both.put(50, 0, 0, 0);
        now(both, "80 is the root: 20, then its greater side", 2, "1 3 2");
        StonesAsked deep = with(5, 50, 20, 80, 70, 60, 65);
        deep.take(0);
        now(deep, "by 80, 70, 60", 1 + 3, "1 4 5 3 2");
        deep.put(61, 0, 0, 0);
        now(deep, "60 is the root: 80, 70, 65", 4, "1 4 6 5 3 2");
        StonesAsked left = with(5, 50, 20, 10, 30);
        left.take(0);
        now(left, "just a lesser side", 1, "2 1 3");
        left.take(1);
        now(left, "both below", 1 + 1, "2 3");
        StonesAsked right = with(5, 50, 80, 70, 90);
        right.take(0);
        now(right, "just a greater side", 1, "2 1 3");
        StonesAsked below = with(5, 50, 20, 80, 10, 30, 70, 90);
        below.take(1);
        now(below, "not the root, lesser side", 2 + 1, "3 4 0 5 2 6");
        below.take(2);
        now(below, "not the root, greater side", 2 + 1, "3 4 0 5 6");
        below.take(3);
        now(below, "a leaf", 3, "4 0 5 6");
    }

    /** BITS: "KEY * 7 % 32 and KEY * 11 % 32 are set", for each value, bit 31 and one bit alone too. */
    private static void bitsOfEachValue() {
        for (int v = 0; v <= 99; v++) {
            StonesAsked x = with(6, v);
            Check.due("bits of " + v, x.ofStone(0, 2), v * 7 % 32 == v * 11 % 32 ? 1 : 2);
            Check.due("looks", x.ofStone(0, 4), 2);
            Check.ask(x, "0=a:n");
            for (int sought = 0; sought <= 99; sought++) {
                int[] bits = {v * 7 % 32, v * 11 % 32};
                boolean first = sought * 7 % 32 == bits[0] || sought * 7 % 32 == bits[1];
                boolean second = sought * 11 % 32 == bits[0] || sought * 11 % 32 == bits[1];
                Check.due(sought + " where " + v + " is", x.through(0, 0, sought, 0), first && second ? -6 : 0);
            }
        }
        StonesAsked sign = with(6, 9);
        // 63 % 32 is 31, 99 % 32 is 3
        Check.due("bit 31 is one", sign.ofStone(0, 2), 2);
        sign.put(29, 0, 0, 0);
        // 203 % 32 is 11, 319 % 32 is 31
        Check.due("bit 31 is one", sign.ofStone(0, 2), 3);
    }

    /** BITS: "(2 LOOKS); taking: 1 LOOK, nothing is cleared"; "32 bits and no names". */
    private static void bitsEdges() {
        StonesAsked x = with(6);
        Check.due("none", x.ofStone(0, 2), 0);
        for (int v = 0; v < 32; v++) {
            x.put(v, 0, 0, 0);
        }
        Check.due("all", x.ofStone(0, 2), 32);
        x.put(99, 0, 0, 0);
        Check.due("not more", x.ofStone(0, 2), 32);
        for (int v = 0; v <= 32; v++) {
            x.take(v);
            Check.due("taking", x.ofStone(0, 4), 1);
        }
        Check.due("nothing is cleared", x.ofStone(0, 2), 32);
        Check.due("all looks", x.ofStone(0, 3), 33 * 3);
        Check.due("no name", x.nameAt(0, 0), -1);
        x.stone(6, 0);
        Check.due("a new one has none", x.ofStone(1, 2), 0);
    }

    /** SUMS: names and looks as SORTED, from nothing to nothing. */
    private static void sumsEdges() {
        StonesAsked x = with(7, 50, 99, 0, 99, 0);
        now(x, "put", 3 + 3, "2 4 0 1 3");
        Check.ask(x, ":s0");
        Check.due("sum", x.through(0, 0, 0, 0), 248);
        x.take(2);
        now(x, "the first", 3 + 4, "4 0 1 3");
        Check.due("sum", x.through(0, 0, 0, 0), 248);
        x.take(3);
        now(x, "the last: middles 2, 3", 2, "4 0 1");
        Check.due("sum", x.through(0, 0, 0, 0), 149);
        x.take(4);
        x.take(1);
        x.take(0);
        now(x, "the only one", 1, "");
        Check.due("sum of none", x.through(0, 0, 0, 0), 0);
        x.put(7, 0, 0, 0);
        Check.due("sum of one", x.through(0, 0, 0, 0), 7);
    }

    /** nameAt: "The name at place i": none below 0, none from the size on, also as the size changes. */
    private static void namesAtTheirEdges() {
        for (int kind : new int[] {1, 2, 3, 4, 5, 7}) {
            StonesAsked x = new StonesAsked();
            x.stone(kind, 0);
            for (int size = 0; size <= 80; size++) {
                Check.due("behind the last of " + size, x.nameAt(0, size), -1);
                Check.due("ahead of the first", x.nameAt(0, -1), -1);
                Check.due("how many", x.ofStone(0, 2), size);
                if (size > 0) {
                    Check.holds("the last of " + size, x.nameAt(0, size - 1) >= 0);
                }
                x.put(size * 37 % 100, 0, 0, 0);
            }
        }
        for (int kind : new int[] {1, 2, 3, 4, 5, 7}) {
            StonesAsked x = Check.withKeys(new int[80]);
            x.stone(kind, 0);
            for (int i = 0; i < 80; i++) {
                Check.due("like ones by number, kind " + kind, x.nameAt(0, i), i);
            }
            x.take(79);
            Check.due("one fewer", x.nameAt(0, 79), -1);
            Check.due("the last now", x.nameAt(0, 78), 78);
        }
    }
}
