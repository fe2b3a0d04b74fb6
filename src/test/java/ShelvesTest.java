/** Promises 35 to 42: shelves, rows of the host, things from rows, counts. */
public final class ShelvesTest {
    public static void main(String[] args) {
        keep();
        row();
        setAndElement();
        sorts();
        shift();
        shiftRefused();
        taken();
        things();
        thingsEnd();
        count();
        Check.end();
    }

    private static void keep() {
        StonesAsked x = new StonesAsked();
        Check.due("no stone", x.keep(0, 0), -1);
        Check.due("nothing", x.keep(0, -1), 1);
        x.stone(2, 0);
        Check.due("no shelf", x.keep(-1, 0), -1);
        Check.due("no shelf", x.keep(6, 0), -1);
        Check.due("no shelf", x.keep(6, -1), -1);
        Check.due("no stone", x.keep(0, 1), -1);
        Check.due("no stone", x.keep(0, -2), -1);
        Check.due("keep", x.keep(5, 0), 1);
        Check.due("it is there", x.taken(5, 0), 2);
        Check.due("refused", x.keep(5, 1), -1);
        Check.due("it is there yet", x.taken(5, 0), 2);
        Check.due("nothing", x.keep(5, -1), 1);
        Check.due("it is not there", x.taken(5, 0), -11);
        x.row(5, 0, 3);
        Check.due("a row gives way", x.keep(5, 0), 1);
        Check.due("to the stone", x.set(5, 0, 1), -12);
        x.row(4, 0, 3);
        Check.due("a row gives way", x.keep(4, -1), 1);
        Check.due("to nothing", x.set(4, 0, 1), -11);
    }

    private static void row() {
        StonesAsked x = new StonesAsked();
        Check.due("no shelf", x.row(-1, 0, 1), -1);
        Check.due("no shelf", x.row(6, 0, 1), -1);
        Check.due("no sort", x.row(0, -1, 1), -1);
        Check.due("no sort", x.row(0, 5, 1), -1);
        Check.due("above 60", x.row(0, 0, 61), -1);
        Check.due("below 0", x.row(0, 0, -1), -14);
        Check.due("BAD stands first", x.row(0, 5, -1), -1);
        Check.due("refused", x.element(0, 0), Long.MIN_VALUE);
        for (int sort = 0; sort <= 4; sort++) {
            Check.due("row", x.row(sort, sort, 60), 1);
            Check.due("0 at first", x.element(sort, 59), 0);
        }
        Check.due("row of none", x.row(5, 3, 0), 1);
        Check.due("has no place", x.set(5, 0, 1), -13);
        x.set(0, 7, 7);
        Check.due("refused", x.row(0, 0, -1), -14);
        Check.due("the row stays", x.element(0, 7), 7);
        x.row(0, 0, 10);
        Check.due("a new row is empty", x.element(0, 7), 0);
        x.stone(1, 0);
        x.keep(0, 0);
        x.row(0, 1, 2);
        Check.due("a stone gives way", x.taken(0, 0), -12);
    }

    private static void setAndElement() {
        StonesAsked x = new StonesAsked();
        x.stone(1, 0);
        x.row(0, 3, 4);
        x.keep(1, 0);
        Check.due("no shelf", x.set(-1, 0, 1), -1);
        Check.due("no shelf", x.set(6, 0, 1), -1);
        Check.due("nothing", x.set(2, 0, 1), -11);
        Check.due("nothing, and no place", x.set(2, -5, 1), -11);
        Check.due("a stone", x.set(1, 99, 1), -12);
        Check.due("below", x.set(0, -1, 1), -13);
        Check.due("beyond", x.set(0, 4, 1), -13);
        Check.due("wild", x.set(0, Integer.MIN_VALUE, 1), -13);
        Check.due("wild", x.set(0, Integer.MAX_VALUE, 1), -13);
        Check.due("first", x.set(0, 0, 11), 1);
        Check.due("last", x.set(0, 3, 14), 1);
        Check.due("first", x.element(0, 0), 11);
        Check.due("last", x.element(0, 3), 14);
        Check.due("between", x.element(0, 1), 0);
        int[][] none = {{-1, 0}, {6, 0}, {2, 0}, {1, 0}, {0, -1}, {0, 4}};
        for (int[] at : none) {
            Check.due("no element", x.element(at[0], at[1]), Long.MIN_VALUE);
        }
    }

    private static void sorts() {
        StonesAsked x = new StonesAsked();
        long v = 0x123456789ABCDEF0L;
        long[] want = {(byte) 0xF0, (short) 0xDEF0, 0x9ABCDEF0, v, 1};
        for (int sort = 0; sort <= 4; sort++) {
            x.row(sort, sort, 2);
            x.set(sort, 0, v);
            Check.due("cut, sort " + sort, x.element(sort, 0), want[sort]);
            x.set(sort, 0, -1);
            Check.due("with sign, sort " + sort, x.element(sort, 0), sort == 4 ? 1 : -1);
            x.set(sort, 0, 1L << 40);
            Check.due("above, sort " + sort, x.element(sort, 0), sort == 3 ? 1L << 40 : sort == 4 ? 1 : 0);
            x.set(sort, 0, 0);
            Check.due("zero, sort " + sort, x.element(sort, 0), 0);
            Check.due("its neighbour, sort " + sort, x.element(sort, 1), 0);
        }
        x.set(0, 0, 128);
        Check.due("a byte", x.element(0, 0), -128);
        x.set(1, 0, 32768);
        Check.due("a short", x.element(1, 0), -32768);
        x.set(2, 0, 2147483648L);
        Check.due("an int", x.element(2, 0), -2147483648L);
        x.set(3, 0, Long.MIN_VALUE);
        Check.due("a long", x.element(3, 0), Long.MIN_VALUE);
    }

    private static StonesAsked counting(int shelf, int sort, int n) {
        StonesAsked x = new StonesAsked();
        x.row(shelf, sort, n);
        for (int i = 0; i < n; i++) {
            x.set(shelf, i, i + 1);
        }
        return x;
    }

    private static void elements(StonesAsked x, int shelf, long... want) {
        for (int i = 0; i < want.length; i++) {
            Check.due("element " + i, x.element(shelf, i), want[i]);
        }
        Check.due("no more", x.element(shelf, want.length), Long.MIN_VALUE);
    }

    private static void shift() {
        StonesAsked x = counting(0, 2, 5);
        Check.due("up", x.shift(0, 0, 0, 1, 4), 4);
        elements(x, 0, 1, 1, 2, 3, 4);
        StonesAsked y = counting(0, 2, 5);
        Check.due("down", y.shift(0, 1, 0, 0, 4), 4);
        elements(y, 0, 2, 3, 4, 5, 5);
        y.row(1, 2, 3);
        Check.due("to another", y.shift(0, 2, 1, 1, 2), 2);
        elements(y, 1, 0, 4, 5);
        elements(y, 0, 2, 3, 4, 5, 5);
        Check.due("none", y.shift(0, 5, 1, 3, 0), 0);
        Check.due("all", y.shift(1, 0, 0, 2, 3), 3);
        elements(y, 0, 2, 3, 0, 4, 5);
    }

    private static void shiftRefused() {
        StonesAsked x = counting(0, 2, 5);
        x.stone(1, 0);
        x.row(1, 2, 3);
        x.row(2, 3, 5);
        x.keep(3, 0);
        Check.due("no shelf", x.shift(-1, 0, 0, 0, 1), -1);
        Check.due("no shelf", x.shift(0, 0, 6, 0, 1), -1);
        Check.due("no shelf", x.shift(5, 0, 6, 0, 1), -1);
        Check.due("nothing", x.shift(5, 0, 0, 0, 1), -11);
        Check.due("nothing", x.shift(0, 0, 5, 0, 1), -11);
        Check.due("nothing stands ahead of another kind", x.shift(3, 0, 5, 0, 1), -11);
        Check.due("a stone", x.shift(3, 0, 0, 0, 1), -12);
        Check.due("a stone", x.shift(0, 0, 3, 0, 1), -12);
        Check.due("stones", x.shift(3, 0, 3, 0, 0), -12);
        Check.due("unlike sorts", x.shift(0, 0, 2, 0, 1), -12);
        Check.due("unlike sorts, and no place", x.shift(0, 9, 2, 0, 1), -12);
        int[][] none = {{-1, 0, 1}, {0, -1, 1}, {0, 0, -1}, {5, 0, 1}, {0, 3, 1}, {3, 0, 3}, {0, 1, 3},
            {6, 0, 0}, {0, 4, 0}, {0, 0, 4}, {1, 0, Integer.MAX_VALUE}, {Integer.MAX_VALUE, 0, 1},
            {0, Integer.MAX_VALUE, Integer.MAX_VALUE}, {0, 0, Integer.MIN_VALUE}, {Integer.MIN_VALUE, 0, 0}};
        for (int[] at : none) {
            Check.due("no place: " + at[0] + " " + at[1] + " " + at[2],
                    x.shift(0, at[0], 1, at[1], at[2]), -13);
        }
        elements(x, 0, 1, 2, 3, 4, 5);
        elements(x, 1, 0, 0, 0);
    }

    private static void taken() {
        StonesAsked x = new StonesAsked();
        String[] under = {"0", "01", "012", "013", "04", "05", "046", "0127"};
        for (int kind = 0; kind < 8; kind++) {
            x.stone(kind, 0);
            x.keep(0, kind);
            for (int k = 0; k < 8; k++) {
                boolean is = under[kind].indexOf('0' + k) >= 0;
                Check.due("kind " + kind + " taken for " + k, x.taken(0, k), is ? kind : -12);
            }
        }
        x.row(1, 0, 4);
        Check.due("a row", x.taken(1, 0), -12);
        Check.due("nothing", x.taken(2, 7), -11);
        Check.due("no shelf", x.taken(6, 0), -1);
        Check.due("no shelf", x.taken(-1, 0), -1);
        Check.due("no kind", x.taken(0, 8), -1);
        Check.due("no kind", x.taken(0, -1), -1);
        Check.due("BAD stands first", x.taken(2, 8), -1);
    }

    private static void things() {
        StonesAsked x = counting(0, 0, 10);
        x.stone(1, 0);
        Check.due("two and a half", x.things(0, 0, 15), 2);
        for (int f = 0; f < 4; f++) {
            Check.due("field", x.of(0, f), 1 + f);
            Check.due("field", x.of(1, f), 5 + f);
        }
        Check.due("in stones, too", x.ofStone(0, 2), 2);
        Check.due("just one", x.things(0, 2, 1), 1);
        Check.due("from 2 on", x.of(2, 0), 3);
        Check.due("the last four", x.things(0, 6, 2), 1);
        Check.due("within a four", x.things(0, 7, 1), 0);
        Check.due("at the end", x.things(0, 10, 1), 0);
        Check.due("beyond", x.things(0, Integer.MAX_VALUE, 15), 0);
        Check.due("below", x.things(0, -1, 1), 0);
        Check.due("below", x.things(0, Integer.MIN_VALUE, 15), 0);
        Check.due("nothing there", x.things(5, 0, 1), 0);
        Check.due("no shelf", x.things(6, 0, 1), -1);
        Check.due("no shelf", x.things(-1, 0, 1), -1);
        Check.due("n", x.things(0, 0, 0), -1);
        Check.due("n", x.things(0, 0, 16), -1);
        Check.due("n stands ahead of nothing there", x.things(5, 0, 0), -1);
        x.keep(1, 0);
        Check.due("a stone", x.things(1, 0, 1), -12);
        for (int sort = 1; sort <= 4; sort++) {
            x.row(1, sort, 8);
            Check.due("another sort", x.things(1, 0, 1), -12);
            Check.due("another sort, i below", x.things(1, -1, 1), -12);
        }
        Check.due("put", x.count(0), 4);
        x.row(2, 0, 60);
        Check.due("all fifteen", x.things(2, 0, 15), 15);
    }

    private static void thingsEnd() {
        StonesAsked x = new StonesAsked();
        x.row(0, 0, 16);
        x.set(0, 9, -1);
        Check.due("one that is no value", x.things(0, 0, 4), 2);
        x.set(0, 9, 100);
        Check.due("one that is no value", x.things(0, 0, 4), 2);
        x.set(0, 9, 99);
        Check.due("all", x.things(0, 0, 4), 4);
        StonesAsked y = counting(0, 0, 16);
        y.set(0, 8, 1);
        y.unlike(0, 1);
        Check.due("one that is refused", y.things(0, 0, 4), 2);
        Check.due("those ahead are put", y.count(1), 2);
        StonesAsked z = new StonesAsked();
        z.row(0, 0, 60);
        for (int i = 0; i < 5; i++) {
            z.things(0, 0, 15);
        }
        Check.due("75 are put", z.count(0), 75);
        Check.due("five have room", z.things(0, 0, 15), 5);
        Check.due("none has", z.things(0, 0, 15), 0);
    }

    private static void count() {
        StonesAsked x = Check.withKeys(1, 2, 3);
        x.take(1);
        Check.ask(x, ":n");
        x.stone(1, 0);
        x.stone(2, 0);
        x.feed(3, 0);
        for (int i = 0; i < 4; i++) {
            x.walk(0);
        }
        x.act(0, 3, 1);
        int[] want = {3, 2, 1, 2, 3, 4, 5};
        for (int what = 0; what <= 6; what++) {
            Check.due("count(" + what + ")", x.count(what), want[what]);
        }
        Check.due("no what", x.count(7), -1);
        Check.due("no what", x.count(-1), -1);
    }
}
