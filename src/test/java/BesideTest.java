import java.util.ArrayList;
import java.util.List;
import java.util.Random;

/** Random runs of calls, with a plain model beside the class: promises 2 to 18, 31, 32 and 42. */
public final class BesideTest {
    private final Random random;
    private final int span;
    private final StonesAsked x = new StonesAsked();
    private final List<int[]> things = new ArrayList<>();
    private final List<Integer> in = new ArrayList<>();
    private final List<PlainAsk> asks = new ArrayList<>();
    private final List<PlainStone> stones = new ArrayList<>();
    private final boolean[] unlike = new boolean[4];
    private final int[] most = {-1, -1, -1, -1};
    private final List<List<Integer>> walks = new ArrayList<>();
    private final List<Boolean> frozen = new ArrayList<>();
    private final List<Integer> walkAt = new ArrayList<>();
    private int looks;

    private BesideTest(int seed) {
        random = new Random(seed);
        span = seed % 3 == 0 ? 4 : seed % 3 == 1 ? 30 : 100;
    }

    public static void main(String[] args) {
        for (int seed = 0; seed < 300; seed++) {
            new BesideTest(seed).run();
        }
        Check.end();
    }

    private void run() {
        for (int call = 0; call < 400; call++) {
            step();
        }
        for (int i = 0; i < stones.size(); i++) {
            look(i);
        }
    }

    private void step() {
        int what = random.nextInt(100);
        if (what < 25) {
            put();
        } else if (what < 40) {
            take();
        } else if (what < 45) {
            stone();
        } else if (what < 53) {
            ask();
        } else if (what < 75) {
            through();
        } else if (what < 82 && !stones.isEmpty()) {
            look(random.nextInt(stones.size()));
        } else if (what < 86) {
            laws();
        } else if (what < 92) {
            walk();
        } else {
            prices();
        }
    }

    private int value() {
        return random.nextInt(40) == 0 ? random.nextInt(300) - 100 : random.nextInt(span);
    }

    private static boolean isValue(int v) {
        return v >= 0 && v <= 99;
    }

    private void put() {
        int[] f = {value(), value(), value(), value()};
        int want = isValue(f[0]) && isValue(f[1]) && isValue(f[2]) && isValue(f[3]) ? wanted(f) : -1;
        Check.due("put", x.put(f[0], f[1], f[2], f[3]), want);
        if (want >= 0) {
            things.add(f);
            in.add(want);
            stones.forEach(s -> s.put(want));
        }
    }

    private int wanted(int[] f) {
        for (int i = 0; i < 4; i++) {
            int sum = f[i];
            for (int thing : in) {
                sum += things.get(thing)[i];
                if (unlike[i] && things.get(thing)[i] == f[i]) {
                    return -5;
                }
            }
            if (most[i] >= 0 && sum > most[i]) {
                return -5;
            }
        }
        return things.size() == 80 ? -3 : things.size();
    }

    private void take() {
        int thing = random.nextInt(things.size() + 3) - 1;
        int want = thing < 0 || thing >= things.size() ? -1 : in.contains(thing) ? 1 : -2;
        Check.due("take", x.take(thing), want);
        if (want == 1) {
            in.remove((Integer) thing);
            stones.forEach(s -> s.take(thing));
        }
        Check.due("count in", x.count(1), in.size());
        Check.due("count put", x.count(0), things.size());
    }

    private void stone() {
        int kind = random.nextInt(9);
        int key = random.nextInt(4);
        int want = kind == 8 ? -1 : stones.size() == 10 ? -3 : stones.size();
        Check.due("stone", x.stone(kind, key), want);
        if (want >= 0) {
            PlainStone fresh = new PlainStone(kind, key, things);
            in.forEach(fresh::put);
            stones.add(fresh);
            look(want);
        }
    }

    private void look(int stone) {
        PlainStone plain = stones.get(stone);
        String of = "stone " + stone + " of kind " + plain.kind;
        Check.due(of + " kind", x.ofStone(stone, 0), plain.kind);
        Check.due(of + " key", x.ofStone(stone, 1), plain.key);
        Check.due(of + " size", x.ofStone(stone, 2), plain.size());
        Check.due(of + " all looks", x.ofStone(stone, 3), plain.all);
        Check.due(of + " latest looks", x.ofStone(stone, 4), plain.latest);
        List<Integer> names = plain.names();
        for (int i = 0; i < names.size(); i++) {
            Check.due(of + " name " + i, x.nameAt(stone, i), names.get(i));
        }
        Check.due(of + " behind", x.nameAt(stone, names.size()), -1);
    }

    private String text() {
        StringBuilder text = new StringBuilder();
        int size = random.nextInt(12) == 0 ? random.nextInt(14) : random.nextInt(4);
        for (int i = 0; i < size; i++) {
            text.append(i == 0 ? "" : "&").append(random.nextInt(4)).append("=<>".charAt(random.nextInt(3)));
            int letter = random.nextInt(3);
            int number = random.nextInt(span);
            text.append(letter == 0 ? "a" : letter == 1 ? "b" : "" + number / 10 + number % 10);
        }
        int out = random.nextInt(4);
        text.append(":").append("nmxs".charAt(out)).append(out == 0 ? "" : "" + random.nextInt(4));
        if (random.nextInt(4) == 0) {
            text.setCharAt(random.nextInt(text.length()), "01234=<>&:nmxsabc".charAt(random.nextInt(17)));
        }
        text.setLength(random.nextInt(10) == 0 ? random.nextInt(text.length()) : text.length());
        return text.length() > 60 ? text.substring(0, 60) : text.toString();
    }

    private void ask() {
        if (asks.size() == 10) {
            Check.due("ask", x.ask(), -3);
            return;
        }
        String text = text();
        int fault = PlainAsk.fault(text);
        Check.due("ask " + text, Check.ask(x, text), fault < 0 ? asks.size() : -100 - fault);
        if (fault < 0) {
            asks.add(new PlainAsk(text));
        }
        Check.due("tape", x.count(4), 0);
        Check.due("asks", x.count(2), asks.size());
    }

    private void through() {
        if (asks.isEmpty()) {
            return;
        }
        int ask = random.nextInt(asks.size());
        PlainAsk plain = asks.get(ask);
        int a = random.nextInt(span);
        int b = random.nextInt(span);
        int due = plain.over(things, in, a, b);
        Check.due("answer", x.answer(ask, a, b), due);
        for (int stone = 0; stone < stones.size(); stone++) {
            PlainStone body = stones.get(stone);
            int want = body.through(plain, a, b);
            looks = want == -2 ? looks : body.looks;
            Check.holds("the model's own answer", want == -2 || want == -6 || want == due);
            Check.due("through kind " + body.kind, x.through(stone, ask, a, b), want);
            Check.due("looks through kind " + body.kind, x.looks(), looks);
        }
        Check.due("firstUnlike", x.firstUnlike(ask, a, b), -2);
        Check.due("looks", x.looks(), looks);
    }

    private void laws() {
        int f = random.nextInt(4);
        if (random.nextBoolean()) {
            int is = random.nextInt(4) == 0 ? 1 : 0;
            long values = in.stream().map(t -> things.get(t)[f]).distinct().count();
            boolean holds = is == 0 || values == in.size();
            Check.due("unlike", x.unlike(f, is), holds ? (unlike[f] ? 1 : 0) : -5);
            unlike[f] = holds ? is == 1 : unlike[f];
        } else {
            int v = random.nextBoolean() ? -1 : random.nextInt(80 * span);
            int sum = in.stream().mapToInt(t -> things.get(t)[f]).sum();
            boolean holds = v < 0 || sum <= v;
            Check.due("most", x.most(f, v), holds ? most[f] : -2);
            most[f] = holds ? v : most[f];
        }
    }

    private void walk() {
        if (random.nextInt(6) == 0) {
            int is = random.nextInt(2);
            Check.due("walk", x.walk(is), walks.size() == 4 ? -3 : walks.size());
            if (walks.size() < 4) {
                walks.add(new ArrayList<>(in));
                frozen.add(is == 1);
                walkAt.add(-1);
            }
            return;
        }
        int walk = random.nextInt(4);
        int want = -1;
        if (walk < walks.size()) {
            for (int thing : (frozen.get(walk) ? walks.get(walk) : in)) {
                if (thing > walkAt.get(walk)) {
                    want = thing;
                    walkAt.set(walk, thing);
                    break;
                }
            }
        }
        Check.due("next", x.next(walk), want);
    }

    private void prices() {
        int n = 1 + random.nextInt(999);
        for (int stone = 0; stone < stones.size(); stone++) {
            for (int ask = 0; ask < asks.size(); ask++) {
                PlainStone body = stones.get(stone);
                Check.due("price", x.price(stone, ask, n), asks.get(ask).price(body.kind, body.key, n));
            }
        }
    }
}
