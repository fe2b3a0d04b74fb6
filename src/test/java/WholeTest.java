import java.lang.reflect.InvocationTargetException;
import java.lang.reflect.Method;
import java.util.Arrays;
import java.util.HashMap;
import java.util.Map;
import java.util.Random;

/**
 * Runs of up to 512 calls of all kinds, one among the other, each answered by the class and by PlainAsked:
 * promises 1 to 42, as parts of one object.
 */
public final class WholeTest {
    private static final int RUNS = 800, CALLS = 512;
    private static final int[] WILD = {Integer.MIN_VALUE, -256, -14, -6, -3, -2, -1, 0, 1, 2, 4, 5, 8, 10, 12, 13,
        16, 60, 61, 80, 99, 100, 999, 1000, 1024, 9999, 10000, Integer.MAX_VALUE};
    private static final Map<String, Method> OF_CLASS = new HashMap<>();
    private static final Map<String, Method> OF_PLAIN = new HashMap<>();
    private static final Map<String, Integer> ANSWERED = new HashMap<>();

    private final Random random;
    private final int span;
    private final StonesAsked x = new StonesAsked();
    private final PlainAsked plain = new PlainAsked();
    private final int seed;
    private int calls;

    private WholeTest(int seed) {
        this.seed = seed;
        random = new Random(seed * 31L + 7);
        span = seed % 4 == 0 ? 3 : seed % 4 == 1 ? 12 : seed % 4 == 2 ? 40 : 100;
    }

    public static void main(String[] args) throws ReflectiveOperationException {
        for (Method m : PlainAsked.class.getDeclaredMethods()) {
            OF_PLAIN.put(m.getName() + Arrays.toString(m.getParameterTypes()), m);
        }
        for (Method m : StonesAsked.class.getMethods()) {
            Method same = OF_PLAIN.get(m.getName() + Arrays.toString(m.getParameterTypes()));
            if (m.getDeclaringClass() == StonesAsked.class) {
                Check.holds("the plain one has " + m, same != null && same.getReturnType() == m.getReturnType());
                OF_CLASS.put(m.getName(), m);
                OF_PLAIN.put(m.getName(), same);
            }
        }
        for (int seed = 0; seed < RUNS; seed++) {
            new WholeTest(seed).run();
        }
        for (String name : OF_CLASS.keySet()) {
            Check.holds(name + " was called often: " + ANSWERED.get(name), ANSWERED.getOrDefault(name, 0) >= RUNS / 4);
        }
        Check.end();
    }

    private void run() throws ReflectiveOperationException {
        while (calls < CALLS) {
            step();
        }
    }

    /** A call on both; nothing more is asked of an object behind its 512th call. */
    private void both(String name, Object... args) throws ReflectiveOperationException {
        if (calls == CALLS) {
            return;
        }
        calls++;
        ANSWERED.merge(name, 1, Integer::sum);
        String call = "run " + seed + ", call " + calls + ": " + name + Arrays.toString(args);
        try {
            long got = ((Number) OF_CLASS.get(name).invoke(x, args)).longValue();
            Check.due(call, got, ((Number) OF_PLAIN.get(name).invoke(plain, args)).longValue());
        } catch (InvocationTargetException e) {
            Check.holds(call + " throws " + e.getCause(), false);
        }
    }

    /** Mostly from low to high, at times beyond. */
    private int v(int low, int high) {
        int luck = random.nextInt(60);
        if (luck == 0) {
            return WILD[random.nextInt(WILD.length)];
        }
        return luck == 1 ? high + 1 : luck == 2 ? low - 1 : low + random.nextInt(Math.max(1, high - low + 1));
    }

    private int value() {
        return v(0, span - 1);
    }

    private int stone() {
        return v(0, plain.count(3) - 1);
    }

    private int oneAsk() {
        return v(0, plain.count(2) - 1);
    }

    private int bits() {
        return v(0, (1 << plain.count(3)) - 1);
    }

    private int shelf() {
        return v(0, 5);
    }

    private void step() throws ReflectiveOperationException {
        int what = random.nextInt(100);
        if (what < 22) {
            keep();
        } else if (what < 30) {
            asks();
        } else if (what < 52) {
            stones();
        } else if (what < 66) {
            plans();
        } else if (what < 82) {
            lines();
        } else {
            actsAndShelves();
        }
    }

    private void keep() throws ReflectiveOperationException {
        int what = random.nextInt(12);
        if (what < 6) {
            both("put", value(), value(), value(), value());
        } else if (what < 8) {
            both("take", v(0, plain.count(0) - 1));
        } else if (what < 10) {
            both("of", v(0, plain.count(0) - 1), v(0, 4));
        } else if (what == 10) {
            both("unlike", v(0, 3), random.nextInt(4) == 0 ? v(0, 1) : 0);
        } else {
            both("most", v(0, 3), random.nextBoolean() ? -1 : v(0, Math.min(9999, 60 * span)));
        }
    }

    private void asks() throws ReflectiveOperationException {
        int what = random.nextInt(10);
        if (what < 4) {
            feedText(text());
            both("ask");
        } else if (what < 5) {
            both("feed", v(1, 4), random.nextInt());
        } else if (what < 6) {
            both("ask");
        } else if (what < 8) {
            both("often", oneAsk(), random.nextInt(3) == 0 ? 0 : v(0, 99));
        } else {
            both("answer", oneAsk(), value(), value());
        }
    }

    private void feedText(String text) throws ReflectiveOperationException {
        int at = 0;
        while (at < text.length()) {
            int n = Math.min(1 + random.nextInt(4), text.length() - at);
            int bytes = n == 4 ? 0 : random.nextInt() << (8 * n);
            for (int i = 0; i < n; i++) {
                bytes |= text.charAt(at + i) << (8 * i);
            }
            both("feed", n, bytes);
            at += n;
        }
    }

    private String text() {
        StringBuilder text = new StringBuilder();
        int about = random.nextInt(4);
        if (random.nextInt(5) == 0) {
            return about + "=a:n";
        }
        int size = random.nextInt(15) == 0 ? 14 : random.nextInt(4);
        for (int i = 0; i < size; i++) {
            int field = random.nextInt(3) == 0 ? random.nextInt(4) : about;
            int number = random.nextInt(span);
            String[] values = {"a", "b", "" + number / 10 + number % 10};
            text.append(i == 0 ? "" : "&").append(field).append("=<>".charAt(random.nextInt(3)));
            text.append(values[size > 4 ? random.nextInt(2) : random.nextInt(3)]);
        }
        int out = random.nextInt(4);
        text.append(':').append("nmxs".charAt(out)).append(out == 0 ? "" : "" + about);
        if (random.nextInt(6) == 0) {
            text.setCharAt(random.nextInt(text.length()), "0459=<>&:nmxsab\u00e4".charAt(random.nextInt(16)));
        }
        return text.toString();
    }

    private void stones() throws ReflectiveOperationException {
        int what = random.nextInt(16);
        if (what < 2) {
            both("stone", v(0, 7), v(0, 3));
        } else if (what < 5) {
            both("ofStone", stone(), v(0, 4));
        } else if (what < 8) {
            both("nameAt", stone(), v(0, plain.count(1) - 1));
        } else if (what < 13) {
            both("through", stone(), oneAsk(), value(), value());
            both("looks");
        } else if (what < 15) {
            both("firstUnlike", oneAsk(), value(), value());
        } else {
            both("looks");
        }
    }

    private void plans() throws ReflectiveOperationException {
        int what = random.nextInt(14);
        int n = random.nextBoolean() ? v(1, 999) : v(1, 40);
        int puts = random.nextBoolean() ? v(0, 999) : v(0, 5);
        if (what < 2) {
            both("price", stone(), oneAsk(), n);
        } else if (what < 3) {
            both("putPrice", stone(), n);
        } else if (what < 5) {
            both("plan", bits(), n, puts);
        } else if (what < 6) {
            both("leastPlan", n, puts, v(1, 4));
        } else if (what < 8) {
            both("goesThrough", bits(), oneAsk(), n);
        } else if (what < 11) {
            both("drift", v(0, span * 9), v(0, span * 9));
        } else if (what < 13) {
            both("drifted", random.nextBoolean() ? v(0, 999) : v(0, span), v(0, 2));
        } else {
            both("undrift");
        }
    }

    private void lines() throws ReflectiveOperationException {
        int what = random.nextInt(30);
        if (what < 12) {
            for (int i = random.nextInt(60) == 0 ? 40 : 1; i > 0; i--) {
                both("cell", value());
            }
        } else if (what < 16) {
            both("misses", v(1, 8), v(1, 8), v(0, 1));
        } else if (what < 17) {
            both(random.nextInt(4) == 0 ? "uncell" : "root");
        } else if (what < 21) {
            both("key", value(), value());
        } else if (what < 22) {
            both("leastLooks", value());
            both("root");
        } else if (what < 23) {
            both("walk", v(0, 1));
        } else {
            both("next", v(0, 3));
        }
    }

    private void actsAndShelves() throws ReflectiveOperationException {
        switch (random.nextInt(10)) {
            case 0:
                both("act", stone(), v(0, 3), random.nextBoolean() ? random.nextInt() : v(-9, 9));
                both("trace", v(0, plain.count(6) - 1));
                break;
            case 1: both("keep", shelf(), random.nextInt(3) == 0 ? -1 : stone()); break;
            case 2: both("row", shelf(), random.nextBoolean() ? 0 : v(0, 4), v(0, 60)); break;
            case 3: both("shift", shelf(), v(0, 20), shelf(), v(0, 20), v(0, 20)); break;
            case 4: both("taken", shelf(), v(0, 7)); break;
            case 5: both("things", shelf(), v(0, 8), v(1, 15)); break;
            case 6: both("count", v(0, 6)); break;
            case 7: fill(); break;
            case 8: both("element", shelf(), v(0, 30)); break;
            default: both("set", shelf(), v(0, 30), random.nextBoolean() ? random.nextLong() : (long) value());
        }
    }

    /** Some elements, one behind the other: a row from which things can be put. */
    private void fill() throws ReflectiveOperationException {
        int shelf = shelf();
        int from = v(0, 8);
        both("row", shelf, 0, v(0, 60));
        for (int i = 0; i < 9; i++) {
            both("set", shelf, from + i, (long) value());
        }
        both("things", shelf, from, v(1, 15));
    }
}
