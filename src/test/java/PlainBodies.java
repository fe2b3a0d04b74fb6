import java.util.ArrayList;
import java.util.List;

/** The bodies of acts (terms 6) as the document has them: two interfaces, and classes one under another. */
final class PlainBodies {
    private PlainBodies() {
    }

    static Stone of(int kind, int number, int key) {
        Stone[] kinds = {new Stone(), new Row(), new Sorted(), new Heap(), new Table(), new Tree(), new Bits(), new Sums()};
        kinds[kind].kind = kind;
        kinds[kind].n = number;
        kinds[kind].k = key;
        return kinds[kind];
    }

    static final Class<?>[] KINDS = {Stone.class, Row.class, Sorted.class, Heap.class, Table.class, Tree.class,
        Bits.class, Sums.class};

    interface Finds {
        int n();

        void runs(int body);

        default int finds(int x) {
            runs(1);
            return x + n();
        }
    }

    interface Tells {
        void runs(int body);

        int mends(int x);

        int keeps(int x);

        default int tells(int x) {
            runs(2);
            return mends(x) - keeps(1);
        }
    }

    static class Stone implements Finds, Tells {
        final List<Integer> ran = new ArrayList<>();
        int kind;
        int n;
        int k;

        @Override public int n() {
            return n;
        }

        @Override public void runs(int body) {
            ran.add(body);
        }

        @Override public int mends(int x) {
            runs(10);
            return finds(x) * 2;
        }

        @Override public int keeps(int x) {
            runs(11);
            return x ^ n;
        }
    }

    static class Row extends Stone {
        @Override public int finds(int x) {
            runs(20);
            return super.finds(x) + k;
        }
    }

    static class Sorted extends Row {
        @Override public int mends(int x) {
            runs(30);
            return super.mends(x) - 1;
        }
    }

    static class Heap extends Row {
        @Override public int keeps(int x) {
            runs(40);
            return super.keeps(x) + finds(2);
        }
    }

    static class Table extends Stone {
        @Override public int finds(int x) {
            runs(50);
            return super.finds(x) * 3;
        }
    }

    static class Tree extends Stone {
        @Override public int tells(int x) {
            runs(60);
            return super.tells(x) ^ 5;
        }
    }

    static class Bits extends Table {
        @Override public int finds(int x) {
            runs(70);
            return -super.finds(x + 1);
        }

        @Override public int keeps(int x) {
            runs(71);
            return super.keeps(x) * 2;
        }
    }

    static class Sums extends Sorted {
        @Override public int mends(int x) {
            runs(80);
            return super.mends(x) + super.finds(x);
        }
    }
}
