/**
 * Each number that a call takes: the last that is allowed and the first that is not, on both sides, and far
 * beyond; and that a call so refused changes nothing. Promises 2 to 42, in their order.
 */
public final class BoundsTest {
    private static final long VOID = -2000000000L;

    public static void main(String[] args) {
        keep();
        asks();
        stones();
        through();
        prices();
        plans();
        drift();
        lines();
        walksAndActs();
        shelves();
        rows();
        shift();
        thingsAndCount();
        justAsked();
        Check.end();
    }

    private static void keep() {
        Bounds.of("put f0", World::some, 0, 99, -1, (x, v) -> x.put(v, 50, 9, 77));
        Bounds.of("put f1", World::some, 0, 99, -1, (x, v) -> x.put(50, v, 9, 77));
        Bounds.of("put f2", World::some, 0, 99, -1, (x, v) -> x.put(50, 50, v, 77));
        Bounds.of("put f3", World::some, 0, 99, -1, (x, v) -> x.put(50, 50, 9, v));
        Bounds.of("take thing", World::some, 0, 5, -1, (x, v) -> x.take(v));
        Bounds.of("of thing", World::some, 0, 5, -1, (x, v) -> x.of(v, 4));
        Bounds.of("of f", World::some, 0, 4, -1, (x, v) -> x.of(0, v));
        Bounds.of("unlike f", World::some, 0, 3, -1, (x, v) -> x.unlike(v, 0));
        Bounds.of("unlike is", World::some, 0, 1, -1, (x, v) -> x.unlike(1, v));
        Bounds.of("most f", World::some, 0, 3, VOID, (x, v) -> x.most(v, 9999));
        Bounds.of("most v", World::some, -1, 9999, VOID, (x, v) -> x.most(2, v));
    }

    private static void asks() {
        Bounds.of("feed n", World::some, 1, 4, -1, (x, v) -> x.feed(v, 0));
        Bounds.of("often ask", World::some, 0, 2, -1, (x, v) -> x.often(v, 5));
        Bounds.of("often v", World::some, 0, 99, -1, (x, v) -> x.often(1, v));
        Bounds.of("answer ask", World::some, 0, 2, VOID, (x, v) -> x.answer(v, 5, 50));
        Bounds.of("answer a", World::some, 0, 99, VOID, (x, v) -> x.answer(1, v, 50));
        Bounds.of("answer b", World::some, 0, 99, VOID, (x, v) -> x.answer(1, 5, v));
        // a and b are looked at even if the ask has no letter
        Bounds.of("answer a, no letter", World::some, 0, 99, VOID, (x, v) -> x.answer(2, v, 0));
        Bounds.of("answer b, no letter", World::some, 0, 99, VOID, (x, v) -> x.answer(2, 0, v));
    }

    private static void stones() {
        Bounds.of("stone kind", World::some, 0, 7, -1, (x, v) -> x.stone(v, 0));
        for (int kind = 0; kind <= 7; kind++) {
            int of = kind;
            Bounds.of("stone key, kind " + kind, World::some, 0, 3, -1, (x, v) -> x.stone(of, v));
            Bounds.of("ofStone what, kind " + kind, World::some, 0, 4, -1, (x, v) -> x.ofStone(of, v));
        }
        Bounds.of("ofStone stone", World::some, 0, 7, -1, (x, v) -> x.ofStone(v, 0));
        Bounds.beyond("nameAt stone", World::some, 0, 7, -1, (x, v) -> x.nameAt(v, 0));
        for (int kind : new int[] {1, 2, 3, 4, 5, 7}) {
            Bounds.of("nameAt i, kind " + kind, World::some, 0, 4, -1, (x, v) -> x.nameAt(kind, v));
        }
        for (int kind : new int[] {0, 6}) {
            for (int i : new int[] {-1, 0, 1, 4, 5, 31, 32, Integer.MAX_VALUE, Integer.MIN_VALUE}) {
                Bounds.refused("nameAt of kind " + kind + " at " + i, World::some, -1, x -> x.nameAt(kind, i));
            }
        }
    }

    private static void through() {
        Bounds.of("through stone", World::some, 0, 7, VOID, (x, v) -> x.through(v, 0, 5, 50));
        for (int kind = 0; kind <= 7; kind++) {
            int of = kind;
            Bounds.of("through ask, kind " + of, World::some, 0, 2, VOID, (x, v) -> x.through(of, v, 5, 50));
            Bounds.of("through a, kind " + of, World::some, 0, 99, VOID, (x, v) -> x.through(of, 0, v, 50));
            Bounds.of("through b, kind " + of, World::some, 0, 99, VOID, (x, v) -> x.through(of, 0, 5, v));
        }
        Bounds.of("firstUnlike ask", World::some, 0, 2, -1, (x, v) -> x.firstUnlike(v, 5, 50));
        Bounds.of("firstUnlike a", World::some, 0, 99, -1, (x, v) -> x.firstUnlike(0, v, 50));
        Bounds.of("firstUnlike b", World::some, 0, 99, -1, (x, v) -> x.firstUnlike(0, 5, v));
    }

    private static void prices() {
        Bounds.of("price stone", World::some, 0, 7, -1, (x, v) -> x.price(v, 0, 9));
        Bounds.of("putPrice stone", World::some, 0, 7, -1, (x, v) -> x.putPrice(v, 9));
        for (int kind = 0; kind <= 7; kind++) {
            int of = kind;
            Bounds.of("price ask, kind " + kind, World::some, 0, 2, -1, (x, v) -> x.price(of, v, 9));
            Bounds.of("price n, kind " + kind, World::some, 1, 999, -1, (x, v) -> x.price(of, 0, v));
            Bounds.of("putPrice n, kind " + kind, World::some, 1, 999, -1, (x, v) -> x.putPrice(of, v));
        }
    }

    private static void plans() {
        Bounds.of("plan stones", World::some, 0, 255, -1, (x, v) -> x.plan(v, 9, 9));
        Bounds.of("plan n", World::some, 1, 999, -1, (x, v) -> x.plan(255, v, 9));
        Bounds.of("plan puts", World::some, 0, 999, -1, (x, v) -> x.plan(255, 9, v));
        Bounds.of("leastPlan n", World::some, 1, 999, -1, (x, v) -> x.leastPlan(v, 9, 2));
        Bounds.of("leastPlan puts", World::some, 0, 999, -1, (x, v) -> x.leastPlan(9, v, 2));
        Bounds.of("leastPlan k", World::some, 1, 4, -1, (x, v) -> x.leastPlan(9, 9, v));
        Bounds.of("goesThrough stones", World::some, 0, 255, -1, (x, v) -> x.goesThrough(v, 0, 9));
        Bounds.of("goesThrough ask", World::some, 0, 2, -1, (x, v) -> x.goesThrough(255, v, 9));
        Bounds.of("goesThrough n", World::some, 1, 999, -1, (x, v) -> x.goesThrough(255, 0, v));
        Bounds.of("plan of all ten", World::full, 0, 1023, -1, (x, v) -> x.plan(v, 9, 9));
        Bounds.of("goesThrough of all ten", World::full, 0, 1023, -1, (x, v) -> x.goesThrough(v, 0, 9));
        Bounds.of("plan without stones", World::none, 0, 0, -1, (x, v) -> x.plan(v, 9, 9));
    }

    private static void drift() {
        Bounds.of("drift first", World::some, 0, 999, -1, (x, v) -> x.drift(v, 5));
        Bounds.of("drift second", World::some, 0, 999, -1, (x, v) -> x.drift(5, v));
        for (int what = 0; what <= 2; what++) {
            int of = what;
            Bounds.of("drifted c, what " + what, World::some, 0, 999, -1, (x, v) -> x.drifted(v, of));
        }
        Bounds.of("drifted what", World::some, 0, 2, -1, (x, v) -> x.drifted(5, v));
    }

    private static void lines() {
        Bounds.of("cell", World::some, 0, 99, -1, (x, v) -> x.cell(v));
        for (int what = 0; what <= 1; what++) {
            int of = what;
            Bounds.of("misses w, what " + what, World::some, 1, 8, -1, (x, v) -> x.misses(v, 2, of));
            Bounds.of("misses f, what " + what, World::some, 1, 8, -1, (x, v) -> x.misses(2, v, of));
        }
        Bounds.of("misses what", World::some, 0, 1, -1, (x, v) -> x.misses(2, 2, v));
        Bounds.of("key often", World::some, 0, 99, -1, (x, v) -> x.key(v, 5));
        Bounds.of("key ahead", World::some, 0, 99, -1, (x, v) -> x.key(5, v));
        Bounds.of("leastLooks behind", World::some, 0, 99, -1, (x, v) -> x.leastLooks(v));
    }

    private static void walksAndActs() {
        Bounds.of("walk frozen", World::some, 0, 1, -1, (x, v) -> x.walk(v));
        Bounds.of("next", World::some, 0, 1, -1, (x, v) -> x.next(v));
        Bounds.of("next of four", World::full, 0, 3, -1, (x, v) -> x.next(v));
        Bounds.of("trace", World::some, 0, 8, -1, (x, v) -> x.trace(v));
        // a wrong act leaves no trace behind, and changes nothing else
        int[][] wrong = {{-1, 0}, {8, 0}, {Integer.MIN_VALUE, 0}, {Integer.MAX_VALUE, 0}, {0, -1}, {0, 4},
            {0, Integer.MIN_VALUE}, {0, Integer.MAX_VALUE}, {8, 4}, {-1, -1}};
        for (int[] at : wrong) {
            String call = "act(" + at[0] + ", " + at[1] + ", 5)";
            StonesAsked x = World.some();
            Check.due("act ahead of it", x.act(0, 0, 5), 5);
            Check.due(call, x.act(at[0], at[1], 5), 0);
            StonesAsked y = World.some();
            y.act(9, 9, 9);
            Bounds.alike(call, x, y);
            Check.due("no trace behind " + call, x.trace(0), -1);
            Check.due("no bodies in " + call, x.count(6), 0);
        }
        for (int stone : new int[] {0, 7}) {
            for (int act : new int[] {0, 3}) {
                StonesAsked x = World.some();
                x.act(stone, act, 5);
                Check.holds("act(" + stone + ", " + act + ", 5) runs", x.count(6) > 0);
            }
        }
    }

    private static void shelves() {
        Bounds.of("keep shelf", World::some, 0, 5, -1, (x, v) -> x.keep(v, 7));
        Bounds.of("keep stone", World::some, -1, 7, -1, (x, v) -> x.keep(2, v));
        Bounds.of("row shelf", World::some, 0, 5, -1, (x, v) -> x.row(v, 0, 5));
        Bounds.of("row sort", World::some, 0, 4, -1, (x, v) -> x.row(2, v, 5));
        for (int sort = 0; sort <= 4; sort++) {
            int of = sort;
            Check.due("row of none, sort " + sort, World.some().row(2, of, 0), 1);
            Check.due("row of 60, sort " + sort, World.some().row(2, of, 60), 1);
            Bounds.above("row n, sort " + sort, World::some, 60, -1, (x, v) -> x.row(2, of, v));
            Bounds.below("row n, sort " + sort, World::some, 0, -14, (x, v) -> x.row(2, of, v));
        }
        Bounds.of("taken shelf", World::some, 0, 5, -1, (x, v) -> x.taken(v, 0));
        Bounds.of("taken k", World::some, 0, 7, -1, (x, v) -> x.taken(1, v));
    }

    private static void rows() {
        Bounds.of("set shelf", World::some, 0, 5, -1, (x, v) -> x.set(v, 0, 1));
        Bounds.of("element shelf", World::some, 2, 5, Long.MIN_VALUE, (x, v) -> x.element(v, 0));
        Bounds.below("element shelf", World::some, 0, Long.MIN_VALUE, (x, v) -> x.element(v, 0));
        int[] sizes = {0, 0, 9, 3, 2, 60};
        for (int shelf = 2; shelf < 6; shelf++) {
            int of = shelf;
            int last = sizes[shelf] - 1;
            Bounds.of("set i, shelf " + of, World::some, 0, last, -13, (x, v) -> x.set(of, v, 77));
            Bounds.of("element i, shelf " + of, World::some, 0, last, Long.MIN_VALUE, (x, v) -> x.element(of, v));
        }
    }

    private static void shift() {
        Bounds.of("shift shelf", World::some, 0, 5, -1, (x, v) -> x.shift(v, 0, 2, 0, 1));
        Bounds.of("shift other", World::some, 0, 5, -1, (x, v) -> x.shift(2, 0, v, 0, 1));
        // shelf 2 has nine bytes, shelf 5 sixty
        Bounds.of("shift i, n 0", World::some, 0, 9, -13, (x, v) -> x.shift(2, v, 5, 0, 0));
        Bounds.of("shift i, n 1", World::some, 0, 8, -13, (x, v) -> x.shift(2, v, 5, 0, 1));
        Bounds.of("shift i, n 9", World::some, 0, 0, -13, (x, v) -> x.shift(2, v, 5, 0, 9));
        Bounds.of("shift j, n 0", World::some, 0, 60, -13, (x, v) -> x.shift(2, 0, 5, v, 0));
        Bounds.of("shift j, n 1", World::some, 0, 59, -13, (x, v) -> x.shift(2, 0, 5, v, 1));
        Bounds.of("shift j, n 9", World::some, 0, 51, -13, (x, v) -> x.shift(2, 0, 5, v, 9));
        Bounds.of("shift n by shelf", World::some, 0, 9, -13, (x, v) -> x.shift(2, 0, 5, 0, v));
        Bounds.of("shift n by other", World::some, 0, 9, -13, (x, v) -> x.shift(5, 0, 2, 0, v));
        Bounds.of("shift n in itself", World::some, 0, 7, -13, (x, v) -> x.shift(2, 2, 2, 0, v));
        Bounds.of("shift n in itself", World::some, 0, 7, -13, (x, v) -> x.shift(2, 0, 2, 2, v));
    }

    private static void thingsAndCount() {
        Bounds.of("things shelf", World::some, 0, 5, -1, (x, v) -> x.things(v, 0, 1));
        Bounds.of("things n", World::some, 1, 15, -1, (x, v) -> x.things(2, 0, v));
        Bounds.of("things n, nothing there", World::some, 1, 15, -1, (x, v) -> x.things(0, 0, v));
        // nine bytes have a whole four from 0 to 5
        Bounds.of("things i", World::some, 0, 5, 0, (x, v) -> x.things(2, v, 1));
        Bounds.of("count what", World::some, 0, 6, -1, (x, v) -> x.count(v));
    }

    /** Calls that just ask change nothing, whatever they answer: "the DAYS stay", "the cells stay". */
    private static void justAsked() {
        quiet("of", x -> x.of(2, 4));
        quiet("answer", x -> x.answer(1, 9, 50));
        quiet("firstUnlike", x -> x.firstUnlike(1, 9, 50));
        for (int kind = 0; kind < 8; kind++) {
            int stone = kind;
            quiet("ofStone", x -> x.ofStone(stone, 3));
            quiet("nameAt", x -> x.nameAt(stone, 4));
            quiet("price", x -> x.price(stone, 0, 100));
            quiet("price, NOT or not", x -> x.price(stone, 1, 100));
            quiet("putPrice", x -> x.putPrice(stone, 100));
            quiet("taken", x -> x.taken(1, stone));
        }
        quiet("looks", StonesAsked::looks);
        quiet("root", StonesAsked::root);
        quiet("plan", x -> x.plan(255, 100, 9));
        quiet("leastPlan", x -> x.leastPlan(100, 9, 4));
        quiet("goesThrough", x -> x.goesThrough(255, 1, 100));
        for (int what = 0; what <= 2; what++) {
            int of = what;
            quiet("drifted", x -> x.drifted(3, of));
            quiet("misses", x -> x.misses(3, 2, of));
        }
        quiet("trace", x -> x.trace(8));
        quiet("element", x -> x.element(2, 8));
        quiet("shift of none", x -> x.shift(2, 9, 5, 60, 0));
        for (int what = 0; what <= 6; what++) {
            int of = what;
            quiet("count", x -> x.count(of));
        }
    }

    private static void quiet(String call, Bounds.Call f) {
        StonesAsked x = World.some();
        long answer = f.on(x);
        Check.due(call + " again", f.on(x), answer);
        Bounds.alike(call, x, World.some());
    }
}
