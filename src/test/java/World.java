/** Objects to look at edges with: one with nothing, one with something of all, one that is full of all. */
final class World {
    private World() {
    }

    static StonesAsked none() {
        return new StonesAsked();
    }

    /**
     * Six things (2 is gone), field 3 unlike, field 2 at most 400; three asks, "0=" on the tape; eight
     * stones, of kinds 0 to 7, by field 0; three days, five cells, three keys, root 1; a frozen walk that
     * has begun and one that is not frozen; a trace of nine bodies; on the shelves nothing, stone 7, nine
     * bytes, three longs, two booleans, sixty bytes.
     */
    static StonesAsked some() {
        StonesAsked x = new StonesAsked();
        x.put(5, 30, 1, 10);
        x.put(7, 20, 2, 11);
        x.put(5, 10, 3, 12);
        x.put(9, 15, 4, 13);
        x.put(0, 99, 5, 14);
        x.put(99, 0, 6, 15);
        x.unlike(3, 1);
        x.most(2, 400);
        for (int kind = 0; kind < 8; kind++) {
            x.stone(kind, 0);
        }
        x.take(2);
        asks(x, "0=a:n", "1>a&1<b:s1", ":m0");
        x.often(1, 7);
        Check.feed(x, "0=");
        x.through(7, 1, 9, 50);
        tellLines(x);
        x.walk(1);
        x.walk(0);
        x.next(0);
        x.act(7, 3, 5);
        fillShelves(x);
        return x;
    }

    private static void asks(StonesAsked x, String... texts) {
        for (String text : texts) {
            Check.ask(x, text);
        }
    }

    private static void tellLines(StonesAsked x) {
        x.drift(10, 4);
        x.drift(0, 20);
        x.drift(10, 4);
        for (int cell : new int[] {0, 8, 16, 0, 24}) {
            x.cell(cell);
        }
        x.key(1, 0);
        x.key(2, 0);
        x.leastLooks(0);
        x.key(5, 1);
        x.key(1, 2);
        x.key(9, 0);
    }

    private static void fillShelves(StonesAsked x) {
        x.keep(1, 7);
        x.row(2, 0, 9);
        for (int i = 0; i < 9; i++) {
            x.set(2, i, 20 + i);
        }
        x.row(3, 3, 3);
        x.set(3, 1, -5);
        x.row(4, 4, 2);
        x.set(4, 0, 1);
        x.row(5, 0, 60);
    }

    /**
     * 80 things (field 0 unlike: 0 to 79), ten asks, 60 bytes on the tape, ten stones, twelve days, 60
     * cells, nine keys, four walks, and six rows of 60 elements.
     */
    static StonesAsked full() {
        StonesAsked x = new StonesAsked();
        x.unlike(0, 1);
        for (int i = 0; i < 80; i++) {
            x.put(i, 99 - i, i % 7, 0);
        }
        for (int i = 0; i < 10; i++) {
            Check.ask(x, i == 0 ? "0=a:n" : ":n");
            x.stone(i % 8, i % 3);
        }
        Check.feed(x, "0=a&".repeat(14) + "0=a:");
        for (int i = 0; i < 12; i++) {
            x.drift(i, 12 - i);
        }
        for (int i = 0; i < 60; i++) {
            x.cell(i * 7 % 60);
        }
        for (int i = 0; i < 9; i++) {
            x.key(i, 9 - i);
        }
        for (int i = 0; i < 4; i++) {
            x.walk(i % 2);
        }
        for (int shelf = 0; shelf < 6; shelf++) {
            x.row(shelf, 0, 60);
            x.set(shelf, 59, 100);
        }
        return x;
    }
}
