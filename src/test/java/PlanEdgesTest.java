/** Terms 4, prices, plans and drift, and promises 17 to 24: a test for each sentence that names an edge. */
public final class PlanEdgesTest {
    private static final int BAD = -1, NOT = -2;

    public static void main(String[] args) {
        levelsByN();
        cutQuarters();
        cutEighths();
        cutHalves();
        edgesOfN();
        equalAheadOfOthers();
        sumsAheadOfBoth();
        heapJustAsTold();
        cannotHaveAPrice();
        putPricesAtEdges();
        planOfNone();
        planOfAll();
        planOften();
        planPuts();
        planNot();
        leastPlanOfNone();
        leastPlanOfAtMostK();
        leastPlanAtItsEdges();
        leastPlanOfLikePrices();
        leastPlanNot();
        goesThroughLikeOnes();
        goesThroughNot();
        twelveDays();
        oneDay();
        dayCosts();
        ruleJustAtC();
        ruleNotAboveZero();
        ruleSinceItCame();
        changesAtZero();
        leastEitherWay();
        undrifted();
        Check.end();
    }

    private static final int[] ORDERED = {2, 5, 7};

    /** All kinds by field 0. */
    private static StonesAsked allKinds(String... asks) {
        StonesAsked x = new StonesAsked();
        for (int kind = 0; kind < 8; kind++) {
            x.stone(kind, 0);
        }
        for (String text : asks) {
            Check.ask(x, text);
        }
        return x;
    }

    /** "L is the least number with 2 to the L above n": each n from 1 to 999. */
    private static void levelsByN() {
        StonesAsked x = allKinds("0=a:m0", "1=a:m0", ":n", "0>a:m0");
        int levels = 1;
        int power = 2;
        for (int n = 1; n <= 999; n++) {
            if (power <= n) {
                power *= 2;
                levels++;
            }
            // five calls for each n: a new object is taken well ahead of the 512th
            if (n % 60 == 0) {
                x = allKinds("0=a:m0", "1=a:m0", ":n", "0>a:m0");
            }
            Check.due("L + 2 for " + n, x.price(2, 0, n), levels + 2);
            Check.due("n + L for " + n, x.price(5, 1, n), n + levels);
            Check.due("2 L for " + n, x.price(7, 2, n), 2 * levels);
            Check.due("L + n / 4 + 1 for " + n, x.price(7, 3, n), levels + n / 4 + 1);
            Check.due("HEAP L for " + n, x.putPrice(3, n), levels);
        }
        Check.due("L of 999 is 10", levels, 10);
    }

    /** "L + n / 4 (cut) + 1". */
    private static void cutQuarters() {
        StonesAsked x = allKinds("0<a:m0");
        int[][] want = {{1, 2}, {2, 3}, {3, 3}, {4, 5}, {5, 5}, {7, 5}, {8, 7}, {99, 32}, {100, 33}, {999, 260}};
        for (int[] row : want) {
            for (int kind : ORDERED) {
                Check.due("for " + row[0] + ", kind " + kind, x.price(kind, 0, row[0]), row[1]);
            }
        }
    }

    /** "n / 8 + 1 (cut)". */
    private static void cutEighths() {
        StonesAsked x = allKinds("0=a:m0");
        int[][] want = {{1, 1}, {7, 1}, {8, 2}, {9, 2}, {15, 2}, {16, 3}, {991, 124}, {992, 125}, {999, 125}};
        for (int[] row : want) {
            Check.due("for " + row[0], x.price(4, 0, row[0]), row[1]);
        }
    }

    /** "L + n / 2", cut. */
    private static void cutHalves() {
        StonesAsked x = allKinds();
        int[][] want = {{1, 1}, {2, 3}, {3, 3}, {4, 5}, {5, 5}, {998, 509}, {999, 509}};
        for (int[] row : want) {
            Check.due("SORTED for " + row[0], x.putPrice(2, row[0]), row[1]);
            Check.due("SUMS for " + row[0], x.putPrice(7, row[0]), row[1]);
        }
    }

    /** "n THINGS (1 .. 999)": by each kind. */
    private static void edgesOfN() {
        StonesAsked x = allKinds(":x1");
        int[] atOne = {NOT, 1, 2, 1, 1, 2, NOT, 2};
        int[] atMost = {NOT, 999, 1009, 999, 999, 1009, NOT, 1009};
        for (int kind = 0; kind < 8; kind++) {
            Check.due("for 1", x.price(kind, 0, 1), atOne[kind]);
            Check.due("for 999", x.price(kind, 0, 999), atMost[kind]);
            Check.due("for 0", x.price(kind, 0, 0), BAD);
            Check.due("for 1000", x.price(kind, 0, 1000), BAD);
        }
    }

    /** "if some C is about KEY: L + n / 4 (cut) + 1, of = about KEY: L + 2": of = and others too. */
    private static void equalAheadOfOthers() {
        StonesAsked x = allKinds("0>a&0=b:m0", "0=a&0>b:m0", "1=a&0<b:m0", "0<b&1=a:m0", "1=a:m0");
        int[] want = {9, 9, 33, 33, 107};
        for (int ask = 0; ask < want.length; ask++) {
            for (int kind : ORDERED) {
                Check.due("ask " + ask + ", kind " + kind, x.price(kind, ask, 100), want[ask]);
            }
            Check.due("table, ask " + ask, x.price(4, ask, 100), ask < 2 ? 13 : 100);
        }
    }

    /** "SUMS with n, s as above: 2 L, ahead of both; else n + L": of no C, too. */
    private static void sumsAheadOfBoth() {
        String[] asks = {":n", ":s0", "0=a:n", "0>a:s0", "0=a&0<b:n", ":s1", "0=a&1=b:n", "1=a:n", ":m0", "0>a:x0"};
        int[] want = {14, 14, 14, 14, 14, 107, 9, 107, 107, 33};
        StonesAsked x = allKinds(asks);
        for (int ask = 0; ask < want.length; ask++) {
            Check.due(asks[ask], x.price(7, ask, 100), want[ask]);
        }
        int[] sorted = {107, 107, 9, 33, 9, 107, 9, 107, 107, 33};
        for (int ask = 0; ask < want.length; ask++) {
            Check.due(asks[ask] + " by SORTED", x.price(2, ask, 100), sorted[ask]);
        }
    }

    /** "HEAP: 1 for m KEY without C; else n." */
    private static void heapJustAsTold() {
        String[] asks = {":m0", ":m1", ":x0", ":s0", ":n", "0=a:m0", "1>a:m0"};
        StonesAsked x = allKinds(asks);
        for (int ask = 0; ask < asks.length; ask++) {
            Check.due(asks[ask], x.price(3, ask, 999), ask == 0 ? 1 : 999);
            Check.due(asks[ask], x.price(3, ask, 1), 1);
        }
    }

    /** "BITS: 2 for what it answers. Else none": NOT, whatever n is. */
    private static void cannotHaveAPrice() {
        String[] asks = {"0=a:n", "0=05:n", ":n", "0<a:n", "0>a:n", "1=a:n", "0=a&0=b:n", "0=a:s0", "0=a:m0", "0=a:x0"};
        StonesAsked x = allKinds(asks);
        for (int ask = 0; ask < asks.length; ask++) {
            for (int n : new int[] {1, 999}) {
                Check.due(asks[ask], x.price(6, ask, n), ask < 2 ? 2 : NOT);
                Check.due(asks[ask], x.price(0, ask, n), NOT);
            }
        }
    }

    /** "PRICE of putting": by each kind, for 1 and 999. */
    private static void putPricesAtEdges() {
        int[] one = {0, 1, 1, 1, 1, 2, 2, 1};
        int[] most = {0, 1, 509, 10, 1, 20, 2, 509};
        StonesAsked x = allKinds();
        for (int kind = 0; kind < 8; kind++) {
            int of = kind;
            Check.due("for 1", x.putPrice(kind, 1), one[kind]);
            Check.due("for 999", x.putPrice(kind, 999), most[kind]);
            Bounds.refused("for 0", World::some, BAD, y -> y.putPrice(of, 0));
            Bounds.refused("for 1000", World::some, BAD, y -> y.putPrice(of, 1000));
        }
    }

    /** "A PLAN: some of the STONES (bits)"; "may be none". */
    private static void planOfNone() {
        StonesAsked x = new StonesAsked();
        Check.due("nothing is asked", x.plan(0, 1, 999), 0);
        Check.due("no such stone", x.plan(1, 1, 0), BAD);
        x.stone(1, 0);
        Check.due("nothing is asked", x.plan(0, 999, 999), 0);
        Check.due("one stone", x.plan(1, 999, 999), 999);
        Check.due("no such stone", x.plan(2, 1, 0), BAD);
        Check.ask(x, ":n");
        Check.due("one is asked", x.plan(0, 1, 0), NOT);
        x.often(0, 0);
        Check.due("never", x.plan(0, 1, 999), 0);
    }

    /** Ten stones are ten bits. */
    private static void planOfAll() {
        StonesAsked x = new StonesAsked();
        for (int i = 0; i < 10; i++) {
            Check.due("one bit too many", x.plan(1 << i, 1, 1), BAD);
            x.stone(1, 0);
            Check.due("all", x.plan((1 << i + 1) - 1, 1, 1), i + 1);
            Check.due("the last alone", x.plan(1 << i, 1, 1), 1);
        }
        Check.due("bit 10", x.plan(1024, 1, 1), BAD);
        Check.due("bit 31", x.plan(Integer.MIN_VALUE, 1, 1), BAD);
        Check.due("all bits", x.plan(-1, 1, 1), BAD);
        Check.due("all but bit 31", x.plan(Integer.MAX_VALUE, 1, 1), BAD);
    }

    /** "how OFTEN (0 .. 99; told; 1 at first) times the least PRICE". */
    private static void planOften() {
        StonesAsked x = new StonesAsked();
        x.stone(2, 0);
        for (int i = 0; i < 10; i++) {
            Check.ask(x, ":x1");
        }
        Check.due("once each", x.plan(1, 999, 0), 10 * 1009);
        for (int i = 0; i < 10; i++) {
            x.often(i, 99);
        }
        Check.due("the most", x.plan(1, 999, 0), 10 * 99 * 1009);
        Check.due("the most, with puts", x.plan(1, 999, 999), 10 * 99 * 1009 + 999 * 509);
        x.often(9, 0);
        Check.due("one never", x.plan(1, 999, 0), 9 * 99 * 1009);
    }

    /** "PUTS (0 .. 999, told with it) times the sum of PRICES of putting": far below where it is held. */
    private static void planPuts() {
        StonesAsked x = new StonesAsked();
        for (int i = 0; i < 10; i++) {
            x.stone(7, 0);
        }
        Check.due("none", x.plan(1023, 999, 0), 0);
        Check.due("one", x.plan(1023, 999, 1), 5090);
        Check.due("the most", x.plan(1023, 999, 999), 5090 * 999);
        Check.due("one stone", x.plan(512, 999, 999), 509 * 999);
    }

    /** plan: "BAD; NOT". */
    private static void planNot() {
        Bounds.refused("none", World::some, NOT, x -> x.plan(0, 9, 9));
        Bounds.refused("STONE", World::some, NOT, x -> x.plan(1, 9, 9));
        Bounds.refused("STONE and BITS", World::some, NOT, x -> x.plan(65, 9, 9));
        Bounds.refused("n", World::some, BAD, x -> x.plan(0, 0, 9));
        Bounds.refused("n", World::some, BAD, x -> x.plan(0, 1000, 9));
        Bounds.refused("puts", World::some, BAD, x -> x.plan(0, 9, -1));
        Bounds.refused("puts", World::some, BAD, x -> x.plan(0, 9, 1000));
    }

    /** The plan of no stones is one of at most k. */
    private static void leastPlanOfNone() {
        StonesAsked x = new StonesAsked();
        Check.due("nothing is asked", x.leastPlan(1, 0, 1), 0);
        for (int i = 0; i < 10; i++) {
            x.stone(0, 0);
        }
        Check.due("nothing is asked", x.leastPlan(999, 999, 4), 0);
        Check.ask(x, ":n");
        Check.due("one is asked", x.leastPlan(999, 999, 4), NOT);
        x.often(0, 0);
        Check.due("never", x.leastPlan(999, 999, 4), 0);
    }

    /** "of at most k STONES (1 .. 4)": five would be cheaper, four are not to be had by three. */
    private static void leastPlanOfAtMostK() {
        StonesAsked x = new StonesAsked();
        for (int key = 0; key < 4; key++) {
            x.stone(6, key);
            Check.ask(x, key + "=a:n");
        }
        x.stone(3, 0);
        x.stone(1, 0);
        Check.due("the heap, as dear as the row", x.leastPlan(100, 0, 1), 16);
        Check.due("heap, and one of BITS", x.leastPlan(100, 0, 2), 1 + 16);
        Check.due("heap, and two", x.leastPlan(100, 0, 3), 3 + 16);
        Check.due("all four of BITS", x.leastPlan(100, 0, 4), 15);
        Check.ask(x, ":m0");
        Check.due("five would be 9", x.plan(31, 100, 0), 9);
        Check.due("four with three of BITS", x.leastPlan(100, 0, 4), 7 + 16);
        for (int k = 1; k <= 4; k++) {
            Check.due("k is kept to", Integer.bitCount(x.leastPlan(100, 0, k)), k);
        }
    }

    /** All ten stones are looked at, the first and the last. */
    private static void leastPlanAtItsEdges() {
        StonesAsked x = new StonesAsked();
        Check.ask(x, ":m0");
        for (int i = 0; i < 9; i++) {
            x.stone(0, 0);
        }
        x.stone(3, 0);
        for (int k = 1; k <= 4; k++) {
            Check.due("the tenth alone", x.leastPlan(1, 999, k), 512);
        }
        StonesAsked y = new StonesAsked();
        Check.ask(y, ":m0");
        for (int i = 0; i < 10; i++) {
            y.stone(i == 0 ? 3 : 1, 0);
        }
        Check.due("the first alone", y.leastPlan(999, 0, 4), 1);
        Check.due("by 1 a row is as good, the first is least as bits", y.leastPlan(1, 999, 4), 1);
    }

    /** "of like PRICE the fewest STONES, then the least as bits." */
    private static void leastPlanOfLikePrices() {
        StonesAsked x = new StonesAsked();
        Check.ask(x, "0=a:n");
        x.stone(0, 0);
        x.stone(6, 0);
        x.stone(0, 0);
        x.stone(6, 0);
        Check.due("one of BITS, the first", x.leastPlan(100, 0, 4), 2);
        StonesAsked y = new StonesAsked();
        Check.ask(y, "0=a:n");
        Check.ask(y, "1=a:n");
        y.stone(6, 0);
        y.stone(6, 1);
        y.stone(1, 2);
        // for 2 the row costs 4, as both of BITS do; one is fewer, though greater as bits
        Check.due("one is fewer than two", y.leastPlan(2, 0, 2), 4);
        Check.due("both are cheaper", y.leastPlan(3, 0, 2), 3);
    }

    /** leastPlan: "BAD; NOT". */
    private static void leastPlanNot() {
        StonesAsked x = new StonesAsked();
        Check.ask(x, "0=a:n");
        Check.ask(x, "1=a:n");
        x.stone(6, 0);
        x.stone(6, 1);
        Check.due("not by one", x.leastPlan(100, 0, 1), NOT);
        Check.due("by two", x.leastPlan(100, 0, 2), 3);
        Bounds.Maker world = () -> {
            StonesAsked y = new StonesAsked();
            y.stone(0, 0);
            Check.ask(y, ":n");
            return y;
        };
        Bounds.refused("it can't", world, NOT, y -> y.leastPlan(1, 0, 4));
        Bounds.refused("n", world, BAD, y -> y.leastPlan(0, 0, 4));
        Bounds.refused("n", world, BAD, y -> y.leastPlan(1000, 0, 4));
        Bounds.refused("puts", world, BAD, y -> y.leastPlan(1, -1, 4));
        Bounds.refused("puts", world, BAD, y -> y.leastPlan(1, 1000, 4));
        Bounds.refused("k", world, BAD, y -> y.leastPlan(1, 0, 0));
        Bounds.refused("k", world, BAD, y -> y.leastPlan(1, 0, 5));
    }

    /** "the one with the least PRICE, of like ones the least number." */
    private static void goesThroughLikeOnes() {
        StonesAsked x = new StonesAsked();
        for (int i = 0; i < 10; i++) {
            x.stone(i == 9 ? 6 : 1, 0);
        }
        Check.ask(x, "0=a:n");
        Check.due("the last one", x.goesThrough(1023, 0, 999), 9);
        Check.due("by 2 all are alike", x.goesThrough(1023, 0, 2), 0);
        Check.due("by 2 all are alike", x.goesThrough(1022, 0, 2), 1);
        Check.due("by 1 the rows", x.goesThrough(512 + 256, 0, 1), 8);
        Check.due("the first alone", x.goesThrough(1, 0, 999), 0);
        Check.due("the last alone", x.goesThrough(512, 0, 1), 9);
    }

    /** goesThrough: "BAD; NOT". */
    private static void goesThroughNot() {
        Bounds.refused("none", World::some, NOT, x -> x.goesThrough(0, 0, 1));
        Bounds.refused("none can", World::some, NOT, x -> x.goesThrough(65, 2, 1));
        Bounds.refused("n", World::some, BAD, x -> x.goesThrough(0, 0, 0));
        Bounds.refused("n", World::some, BAD, x -> x.goesThrough(0, 0, 1000));
        Bounds.refused("ask", World::some, BAD, x -> x.goesThrough(0, 3, 1));
        Bounds.refused("stones", World::some, BAD, x -> x.goesThrough(256, 0, 1));
        StonesAsked x = World.some();
        x.often(0, 0);
        Check.due("what never comes goes through one, too", x.goesThrough(255, 0, 100), 6);
    }

    /** "DAYS told (1 .. 12)"; "BAD, FULL: 12". */
    private static void twelveDays() {
        StonesAsked x = new StonesAsked();
        for (int i = 1; i <= 12; i++) {
            Check.due("day", x.drift(1, 2), i);
        }
        Check.due("the 13th", x.drift(1, 2), -3);
        Check.due("twelve", x.drifted(0, 0), 12);
        Bounds.refused("the 13th", World::full, -3, y -> y.drift(0, 0));
        Bounds.refused("BAD stands ahead of FULL", World::full, BAD, y -> y.drift(1000, 0));
        Bounds.refused("BAD stands ahead of FULL", World::full, BAD, y -> y.drift(0, -1));
        Check.due("they go", x.undrift(), 12);
        Check.due("the first again", x.drift(1, 2), 1);
    }

    /** One DAY: no change; none: BAD. */
    private static void oneDay() {
        StonesAsked x = new StonesAsked();
        for (int what = 0; what <= 2; what++) {
            Check.due("no day", x.drifted(0, what), BAD);
        }
        x.drift(9, 4);
        for (int c : new int[] {0, 1, 999}) {
            Check.due("beginning with either", x.drifted(c, 0), 4);
            Check.due("the first by the rule", x.drifted(c, 1), 9);
            Check.due("no change", x.drifted(c, 2), 0);
        }
        Check.due("the days stay", x.undrift(), 1);
        Check.due("no day", x.drifted(0, 0), BAD);
    }

    /** "costs of two PLANS (0 .. 999 each)", "each change costing c (0 .. 999)". */
    private static void dayCosts() {
        StonesAsked x = new StonesAsked();
        for (int i = 0; i < 12; i++) {
            x.drift(i % 2 == 0 ? 999 : 0, i % 2 == 0 ? 0 : 999);
        }
        Check.due("free changes", x.drifted(0, 0), 0);
        Check.due("998 for each", x.drifted(998, 0), 5 * 999 + 998);
        Check.due("the dearest", x.drifted(999, 0), 6 * 999);
        Check.due("by the rule", x.drifted(999, 2), 11);
        Check.due("by the rule", x.drifted(999, 1), 12 * 999 + 11 * 999);
        StonesAsked none = new StonesAsked();
        none.drift(0, 0);
        none.drift(0, 0);
        for (int c : new int[] {1, 999}) {
            Check.due("nothing", none.drifted(c, 0), 0);
            Check.due("nothing", none.drifted(c, 1), 0);
            Check.due("nothing", none.drifted(c, 2), 0);
        }
    }

    /** "comes to c or more". */
    private static void ruleJustAtC() {
        StonesAsked x = new StonesAsked();
        x.drift(7, 2);
        x.drift(7, 2);
        x.drift(7, 2);
        Check.due("at 5", x.drifted(5, 2), 1);
        Check.due("at 5", x.drifted(5, 1), 7 + 5 + 2 + 2);
        Check.due("at 6", x.drifted(6, 2), 1);
        Check.due("at 6", x.drifted(6, 1), 7 + 7 + 6 + 2);
        Check.due("at 10", x.drifted(10, 1), 7 + 7 + 10 + 2);
        Check.due("at 11: the last day brings no change", x.drifted(11, 2), 0);
        Check.due("at 11", x.drifted(11, 1), 21);
        Check.due("at 15", x.drifted(15, 2), 0);
    }

    /** "or since the last time that this was not above 0". */
    private static void ruleNotAboveZero() {
        StonesAsked x = new StonesAsked();
        x.drift(0, 9);
        x.drift(5, 0);
        x.drift(0, 0);
        Check.due("what was saved ahead does not count", x.drifted(5, 2), 1);
        Check.due("what was saved ahead does not count", x.drifted(5, 1), 5 + 5);
        Check.due("5 is below 6", x.drifted(6, 2), 0);
        StonesAsked w = new StonesAsked();
        w.drift(4, 0);
        w.drift(0, 3);
        w.drift(4, 0);
        w.drift(0, 0);
        Check.due("4, 1, 5: a change at 5", w.drifted(5, 2), 1);
        Check.due("its sum", w.drifted(5, 1), 4 + 0 + 4 + 5 + 0);
        Check.due("4, 1, 5: none at 6", w.drifted(6, 2), 0);
    }

    /** "on the DAYS since it came into use". */
    private static void ruleSinceItCame() {
        StonesAsked x = new StonesAsked();
        x.drift(9, 0);
        x.drift(0, 2);
        x.drift(0, 2);
        x.drift(0, 2);
        x.drift(0, 2);
        // the second comes into use on day 1; 2, 4, 6 since; what the first one cost ahead does not count
        Check.due("by 6", x.drifted(6, 2), 2);
        Check.due("by 6", x.drifted(6, 1), 9 + 6 + 2 + 2 + 2 + 6 + 0);
        Check.due("by 7", x.drifted(7, 2), 1);
        Check.due("by 9", x.drifted(9, 1), 9 + 9 + 2 + 2 + 2 + 2);
    }

    /** By c 0 what is not above 0 comes to it, ahead of each DAY but the first. */
    private static void changesAtZero() {
        StonesAsked x = new StonesAsked();
        for (int days = 1; days <= 12; days++) {
            x.drift(days, 0);
            Check.due("by 0", x.drifted(0, 2), days - 1);
        }
        Check.due("by turns", x.drifted(0, 1), 1 + 3 + 5 + 7 + 9 + 11);
    }

    /** "the least sum, beginning with either". */
    private static void leastEitherWay() {
        StonesAsked x = new StonesAsked();
        x.drift(0, 5);
        x.drift(5, 0);
        Check.due("a change for 4", x.drifted(4, 0), 4);
        Check.due("a change for 5", x.drifted(5, 0), 5);
        Check.due("none for 6", x.drifted(6, 0), 5);
        x.undrift();
        x.drift(5, 0);
        x.drift(0, 5);
        Check.due("a change for 4", x.drifted(4, 0), 4);
        Check.due("none for 6", x.drifted(6, 0), 5);
    }

    /** "DAYS of DRIFT are none: how many there were." */
    private static void undrifted() {
        StonesAsked x = new StonesAsked();
        Check.due("none", x.undrift(), 0);
        x.drift(1, 1);
        Check.due("one", x.undrift(), 1);
        Check.due("none", x.undrift(), 0);
        Check.due("BAD", x.drifted(0, 0), BAD);
        Check.due("from the first on", x.drift(3, 8), 1);
        Check.due("nothing of those ahead", x.drifted(0, 1), 3);
    }
}
