import java.util.Random;

/** Promises 17 to 24: prices, plans and drift. */
public final class PlansTest {
    public static void main(String[] args) {
        prices();
        putPrices();
        badPrices();
        plan();
        leastPlan();
        leastPlanAgainstAll();
        goesThrough();
        drift();
        driftAgainstAll();
        Check.end();
    }

    private static StonesAsked withAllKinds(int key) {
        StonesAsked x = new StonesAsked();
        for (int kind = 0; kind < 8; kind++) {
            x.stone(kind, key);
        }
        return x;
    }

    /** Prices by kinds, for a key of 1. */
    private static void price(String text, int n, int... want) {
        StonesAsked x = withAllKinds(1);
        int ask = Check.ask(x, text);
        for (int kind = 0; kind < 8; kind++) {
            Check.due("price of " + text + " for " + n + " by kind " + kind,
                    x.price(kind, ask, n), want[kind]);
        }
    }

    private static void prices() {
        price(":n", 100, -2, 100, 107, 100, 100, 107, -2, 14);
        price(":s1", 100, -2, 100, 107, 100, 100, 107, -2, 14);
        price(":s0", 100, -2, 100, 107, 100, 100, 107, -2, 107);
        price(":m1", 100, -2, 100, 107, 1, 100, 107, -2, 107);
        price(":m0", 100, -2, 100, 107, 100, 100, 107, -2, 107);
        price(":x1", 100, -2, 100, 107, 100, 100, 107, -2, 107);
        price("1=a:n", 100, -2, 100, 9, 100, 13, 9, 2, 14);
        price("1=a:m1", 100, -2, 100, 9, 100, 13, 9, -2, 9);
        price("1<a:n", 100, -2, 100, 33, 100, 100, 33, -2, 14);
        price("1>a:m1", 100, -2, 100, 33, 100, 100, 33, -2, 33);
        price("1>a&1=b:x0", 100, -2, 100, 9, 100, 13, 9, -2, 9);
        price("0=a&1>b:n", 100, -2, 100, 33, 100, 100, 33, -2, 33);
        price("0=a:n", 100, -2, 100, 107, 100, 100, 107, -2, 107);
        price("1=a&0=b:n", 100, -2, 100, 9, 100, 13, 9, -2, 9);
        price("1=a:n", 1, -2, 1, 3, 1, 1, 3, 2, 2);
        price("1<a:m0", 1, -2, 1, 2, 1, 1, 2, -2, 2);
        price("1<a:m0", 3, -2, 3, 3, 3, 3, 3, -2, 3);
        price("1<a:m0", 4, -2, 4, 5, 4, 4, 5, -2, 5);
        price("1=a:m0", 7, -2, 7, 5, 7, 1, 5, -2, 5);
        price("1=a:m0", 8, -2, 8, 6, 8, 2, 6, -2, 6);
        price(":x0", 999, -2, 999, 1009, 999, 999, 1009, -2, 1009);
        price(":n", 511, -2, 511, 520, 511, 511, 520, -2, 18);
        price(":n", 512, -2, 512, 522, 512, 512, 522, -2, 20);
    }

    private static void putPrices() {
        int[][] want = {
            {1, 0, 1, 1, 1, 1, 2, 2, 1},
            {2, 0, 1, 3, 2, 1, 4, 2, 3},
            {3, 0, 1, 3, 2, 1, 4, 2, 3},
            {4, 0, 1, 5, 3, 1, 6, 2, 5},
            {100, 0, 1, 57, 7, 1, 14, 2, 57},
            {999, 0, 1, 509, 10, 1, 20, 2, 509}};
        StonesAsked x = withAllKinds(2);
        for (int[] row : want) {
            for (int kind = 0; kind < 8; kind++) {
                Check.due("putPrice(" + kind + ", " + row[0] + ")", x.putPrice(kind, row[0]), row[kind + 1]);
            }
        }
        Check.due("n below", x.putPrice(0, 0), -1);
        Check.due("n above", x.putPrice(0, 1000), -1);
        Check.due("no stone", x.putPrice(8, 1), -1);
        Check.due("no stone", x.putPrice(-1, 1), -1);
    }

    private static void badPrices() {
        StonesAsked x = withAllKinds(0);
        int ask = Check.ask(x, ":n");
        Check.due("n below", x.price(1, ask, 0), -1);
        Check.due("n above", x.price(1, ask, 1000), -1);
        Check.due("n below where it can't", x.price(0, ask, 0), -1);
        Check.due("no stone", x.price(8, ask, 1), -1);
        Check.due("no stone", x.price(-1, ask, 1), -1);
        Check.due("no ask", x.price(1, 1, 1), -1);
        Check.due("no ask", x.price(1, -1, 1), -1);
    }

    private static void plan() {
        StonesAsked x = new StonesAsked();
        Check.due("nothing asked, no stones", x.plan(0, 1, 999), 0);
        Check.due("no such stone", x.plan(1, 1, 0), -1);
        x.stone(0, 0);
        x.stone(1, 0);
        x.stone(5, 0);
        x.stone(6, 0);
        Check.due("just puts", x.plan(15, 100, 10), 10 * (0 + 1 + 14 + 2));
        int ask = Check.ask(x, "0=a:n");
        Check.due("none", x.plan(0, 100, 10), -2);
        Check.due("STONE can't", x.plan(1, 100, 10), -2);
        Check.due("by row", x.plan(2, 100, 10), 110);
        Check.due("by tree", x.plan(4, 100, 10), 9 + 140);
        Check.due("by bits", x.plan(8, 100, 10), 2 + 20);
        Check.due("the least of both", x.plan(6, 100, 3), 9 + 3 * 15);
        x.often(ask, 99);
        Check.due("often", x.plan(6, 100, 3), 9 * 99 + 3 * 15);
        int other = Check.ask(x, "1=a:n");
        Check.due("bits can't", x.plan(8, 100, 0), -2);
        x.often(other, 0);
        Check.due("what never comes may go through none", x.plan(8, 100, 0), 198);
        Check.due("all", x.plan(15, 999, 999), 198 + 999 * (1 + 20 + 2));
        Check.due("bits beyond", x.plan(16, 100, 0), -1);
        Check.due("bits below", x.plan(-1, 100, 0), -1);
        Check.due("n", x.plan(2, 0, 0), -1);
        Check.due("n", x.plan(2, 1000, 0), -1);
        Check.due("puts", x.plan(2, 1, -1), -1);
        Check.due("puts", x.plan(2, 1, 1000), -1);
        Check.due("BAD stands ahead of NOT", x.plan(0, 1, 1000), -1);
    }

    private static void leastPlan() {
        StonesAsked x = new StonesAsked();
        Check.due("nothing asked, no stones", x.leastPlan(1, 0, 1), 0);
        int first = Check.ask(x, "0=a:n");
        Check.due("no stones", x.leastPlan(1, 0, 1), -2);
        x.stone(0, 0);
        x.stone(6, 0);
        x.stone(6, 1);
        Check.due("bits", x.leastPlan(100, 0, 4), 2);
        int second = Check.ask(x, "1=a:n");
        Check.due("one is not enough", x.leastPlan(100, 0, 1), -2);
        Check.due("two are", x.leastPlan(100, 0, 2), 6);
        x.often(first, 0);
        Check.due("what never comes does not count", x.leastPlan(100, 0, 1), 4);
        x.often(second, 0);
        Check.due("nothing comes", x.leastPlan(100, 0, 1), 0);
        StonesAsked y = new StonesAsked();
        y.stone(1, 1);
        y.stone(0, 1);
        y.stone(1, 0);
        Check.ask(y, ":n");
        Check.due("of like ones the fewest, then the least", y.leastPlan(9, 0, 4), 1);
        y.stone(3, 0);
        Check.ask(y, ":m0");
        Check.due("the heap for both", y.leastPlan(9, 0, 4), 8);
        Check.due("dear to put", y.leastPlan(9, 9, 4), 1);
        Check.due("n", y.leastPlan(0, 0, 1), -1);
        Check.due("n", y.leastPlan(1000, 0, 1), -1);
        Check.due("puts", y.leastPlan(1, -1, 1), -1);
        Check.due("puts", y.leastPlan(1, 1000, 1), -1);
        Check.due("k", y.leastPlan(1, 0, 0), -1);
        Check.due("k", y.leastPlan(1, 0, 5), -1);
    }

    private static final String[] SOME = {"0=a:n", "1=a:n", "0>a:m1", ":m0", ":m1", ":s0", "1<a:s1",
        ":x2", "2=07&0>b:n", "3=a:x3"};

    /** The least one again, from the prices of all plans that plan() tells. */
    private static void leastPlanAgainstAll() {
        Random random = new Random(7);
        for (int round = 0; round < 40; round++) {
            StonesAsked x = new StonesAsked();
            int size = 1 + random.nextInt(7);
            for (int i = 0; i < size; i++) {
                x.stone(random.nextInt(8), random.nextInt(2));
            }
            int asks = random.nextInt(SOME.length + 1);
            for (int i = 0; i < asks; i++) {
                x.often(Check.ask(x, SOME[i]), random.nextInt(4) * 8);
            }
            int n = 1 + random.nextInt(300);
            int puts = random.nextInt(30);
            for (int k = 1; k <= 4; k++) {
                Check.due("leastPlan, round " + round, x.leastPlan(n, puts, k), least(x, size, n, puts, k));
            }
        }
    }

    private static int least(StonesAsked x, int size, int n, int puts, int k) {
        int best = -2;
        for (int count = k; count >= 0; count--) {
            for (int bits = (1 << size) - 1; bits >= 0; bits--) {
                int price = Integer.bitCount(bits) == count ? x.plan(bits, n, puts) : -2;
                if (price != -2 && (best == -2 || price <= x.plan(best, n, puts))) {
                    best = bits;
                }
            }
        }
        return best;
    }

    private static void goesThrough() {
        StonesAsked x = new StonesAsked();
        for (int kind = 0; kind < 8; kind++) {
            x.stone(kind, 0);
        }
        x.stone(2, 0);
        int count = Check.ask(x, "0=a:n");
        int least = Check.ask(x, ":m0");
        int sum = Check.ask(x, "0>a:s0");
        int other = Check.ask(x, "1=a:x1");
        Check.due("bits", x.goesThrough(511, count, 100), 6);
        Check.due("heap", x.goesThrough(511, least, 100), 3);
        Check.due("sums", x.goesThrough(511, sum, 100), 7);
        Check.due("of like ones the first", x.goesThrough(511, other, 100), 1);
        Check.due("of like ones the first", x.goesThrough(256 + 32 + 4, count, 100), 2);
        Check.due("of like ones the first", x.goesThrough(256 + 32, count, 100), 5);
        Check.due("by n", x.goesThrough(16 + 2, count, 1), 1);
        Check.due("by n", x.goesThrough(16 + 4, count, 7), 4);
        Check.due("by n", x.goesThrough(16 + 4, count, 999), 2);
        x.often(count, 0);
        Check.due("how often does not count", x.goesThrough(511, count, 100), 6);
        Check.due("none", x.goesThrough(0, count, 100), -2);
        Check.due("none can", x.goesThrough(1 + 64, least, 100), -2);
        Check.due("bits beyond", x.goesThrough(512, count, 100), -1);
        Check.due("bits below", x.goesThrough(-1, count, 100), -1);
        Check.due("no ask", x.goesThrough(1, 4, 100), -1);
        Check.due("no ask", x.goesThrough(1, -1, 100), -1);
        Check.due("n", x.goesThrough(1, count, 0), -1);
        Check.due("n", x.goesThrough(1, count, 1000), -1);
    }

    private static void drift() {
        StonesAsked x = new StonesAsked();
        Check.due("no day", x.drifted(0, 0), -1);
        Check.due("bad", x.drift(-1, 0), -1);
        Check.due("bad", x.drift(0, -1), -1);
        Check.due("bad", x.drift(1000, 0), -1);
        Check.due("bad", x.drift(0, 1000), -1);
        Check.due("day", x.drift(10, 4), 1);
        Check.due("one day: either", x.drifted(5, 0), 4);
        Check.due("one day: the first by rule", x.drifted(0, 1), 10);
        Check.due("one day: no change", x.drifted(0, 2), 0);
        Check.due("day", x.drift(10, 4), 2);
        Check.due("6 is c: it changes", x.drifted(6, 2), 1);
        Check.due("its sum", x.drifted(6, 1), 10 + 6 + 4);
        Check.due("6 is below 7", x.drifted(7, 2), 0);
        x.drift(0, 20);
        x.drift(10, 4);
        // 6, 12, then -8 counts as 0, then 6
        x.drift(10, 4);
        Check.due("what was not above 0 begins anew", x.drifted(13, 2), 0);
        Check.due("sum", x.drifted(13, 1), 40);
        Check.due("by 12", x.drifted(12, 2), 2);
        // 10, 10, change 12, 20, change 12, 10, 10
        Check.due("by 12", x.drifted(12, 1), 10 + 10 + 12 + 20 + 12 + 10 + 10);
        Check.due("least", x.drifted(3, 0), 4 + 4 + 3 + 0 + 3 + 4 + 4);
        Check.due("c", x.drifted(-1, 0), -1);
        Check.due("c", x.drifted(1000, 0), -1);
        Check.due("what", x.drifted(0, 3), -1);
        Check.due("what", x.drifted(0, -1), -1);
        Check.due("the days stay", x.undrift(), 5);
        Check.due("none now", x.drifted(0, 0), -1);
        Check.due("none now", x.undrift(), 0);
        for (int i = 1; i <= 12; i++) {
            Check.due("day", x.drift(999, 999), i);
        }
        Check.due("full", x.drift(0, 0), -3);
        Check.due("bad stands first", x.drift(-1, 0), -1);
        Check.due("edge", x.drifted(999, 0), 12 * 999);
        // a change ahead of each day, as 0 comes to 0
        Check.due("by 0", x.drifted(0, 2), 11);
    }

    private static void driftAgainstAll() {
        Random random = new Random(11);
        for (int round = 0; round < 60; round++) {
            StonesAsked x = new StonesAsked();
            int days = 1 + random.nextInt(12);
            int[][] costs = new int[days][2];
            for (int[] day : costs) {
                day[0] = random.nextInt(20);
                day[1] = random.nextInt(20);
                x.drift(day[0], day[1]);
            }
            int c = random.nextInt(15);
            Check.due("least drift, round " + round, x.drifted(c, 0), leastDrift(costs, c));
            Check.due("ruled drift, round " + round, x.drifted(c, 1), ruled(costs, c)[0]);
            Check.due("ruled changes, round " + round, x.drifted(c, 2), ruled(costs, c)[1]);
        }
    }

    private static int leastDrift(int[][] costs, int c) {
        int best = Integer.MAX_VALUE;
        for (int choice = 0; choice < 1 << costs.length; choice++) {
            int sum = 0;
            for (int day = 0; day < costs.length; day++) {
                sum += costs[day][choice >> day & 1];
                sum += day > 0 && (choice >> day & 1) != (choice >> (day - 1) & 1) ? c : 0;
            }
            best = Math.min(best, sum);
        }
        return best;
    }

    /** By the words of the rule: ahead of each day the days are summed anew. */
    private static int[] ruled(int[][] costs, int c) {
        int use = 0;
        int since = 0;
        int sum = costs[0][0];
        int changes = 0;
        for (int day = 1; day < costs.length; day++) {
            int lost = 0;
            for (int d = since; d < day; d++) {
                lost += costs[d][use] - costs[d][1 - use];
                if (lost <= 0) {
                    lost = 0;
                }
            }
            if (lost >= c) {
                use = 1 - use;
                since = day;
                sum += c;
                changes++;
            }
            sum += costs[day][use];
        }
        return new int[] {sum, changes};
    }
}
