import java.util.Random;

/** Wild arguments in any state: no call throws, and the same calls give the same answers. */
public final class WildTest {
    private static final int[] ODD = {Integer.MIN_VALUE, Integer.MIN_VALUE + 1, -2000000000, -101, -100, -2, -1,
        0, 1, 2, 3, 4, 5, 6, 7, 8, 9, 10, 11, 12, 15, 16, 31, 32, 59, 60, 61, 79, 80, 99, 100, 999, 1000, 1023,
        9999, 10000, Integer.MAX_VALUE - 1, Integer.MAX_VALUE};

    public static void main(String[] args) {
        for (int seed = 0; seed < 400; seed++) {
            long first = run(seed);
            Check.due("seed " + seed, run(seed), first);
        }
        Check.end();
    }

    private static long run(int seed) {
        Random random = new Random(seed);
        StonesAsked x = new StonesAsked();
        long sum = 0;
        for (int call = 0; call < 512; call++) {
            sum = sum * 31 + call(x, random, random.nextInt(42));
        }
        return sum;
    }

    private static int odd(Random random) {
        return random.nextInt(3) == 0 ? ODD[random.nextInt(ODD.length)] : random.nextInt(8);
    }

    private static long call(StonesAsked x, Random r, int which) {
        int a = odd(r);
        int b = odd(r);
        int c = odd(r);
        int d = odd(r);
        int e = odd(r);
        switch (which) {
            case 0: return x.put(a, b, c, d);
            case 1: return x.take(a);
            case 2: return x.of(a, b);
            case 3: return x.unlike(a, b);
            case 4: return x.most(a, b);
            case 5: return x.feed(a, r.nextInt());
            case 6: return x.ask();
            case 7: return x.often(a, b);
            case 8: return x.answer(a, b, c);
            case 9: return x.stone(a, b);
            case 10: return x.ofStone(a, b);
            case 11: return x.nameAt(a, b);
            case 12: return x.through(a, b, c, d);
            case 13: return x.looks();
            case 14: return x.firstUnlike(a, b, c);
            case 15: return x.price(a, b, c);
            case 16: return x.putPrice(a, b);
            case 17: return x.plan(a, b, c);
            case 18: return x.leastPlan(a, b, c);
            case 19: return x.goesThrough(a, b, c);
            case 20: return x.drift(a, b);
            case 21: return x.drifted(a, b);
            case 22: return x.undrift();
            case 23: return x.cell(a);
            case 24: return x.misses(a, b, c);
            case 25: return x.uncell();
            case 26: return x.key(a, b);
            case 27: return x.leastLooks(a);
            case 28: return x.root();
            case 29: return x.walk(a);
            case 30: return x.next(a);
            case 31: return x.act(a, b, r.nextInt());
            case 32: return x.trace(a);
            case 33: return x.keep(a, b);
            case 34: return x.row(a, b, c);
            case 35: return x.set(a, b, r.nextLong());
            case 36: return x.element(a, b);
            case 37: return x.shift(a, b, c, d, e);
            case 38: return x.taken(a, b);
            case 39: return x.things(a, b, c);
            case 40: return x.count(a);
            default: return Check.ask(x, r.nextBoolean() ? "0=a&1>b:s0" : ":m0");
        }
    }
}
