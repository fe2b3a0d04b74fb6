import java.util.ArrayDeque;
import java.util.ArrayList;
import java.util.Deque;
import java.util.List;

/** The document written anew, each public call in its plainest form, to stand beside the class. */
final class PlainAsked {
    private static final int[][] NO_DAYS = {};
    private final List<int[]> things = new ArrayList<>();
    private final List<Integer> in = new ArrayList<>();
    private final int[] unlike = new int[4];
    private final int[] most = {-1, -1, -1, -1};
    private final StringBuilder tape = new StringBuilder();
    private final List<PlainAsk> asks = new ArrayList<>();
    private final List<Integer> often = new ArrayList<>();
    private final List<PlainStone> stones = new ArrayList<>();
    private final List<PlainBodies.Stone> bodies = new ArrayList<>();
    private int looks;
    private final List<int[]> days = new ArrayList<>();
    private final List<Integer> cells = new ArrayList<>();
    private final List<int[]> keys = new ArrayList<>();
    private int root = -1;
    private final List<Deque<Integer>> frozen = new ArrayList<>();
    private final int[] walked = {-1, -1, -1, -1};
    private List<Integer> ran = new ArrayList<>();
    private final PlainShelves shelves = new PlainShelves();

    private static boolean within(int v, int low, int high) {
        return low <= v && v <= high;
    }

    private boolean noStone(int stone) {
        return !within(stone, 0, stones.size() - 1);
    }

    private boolean noAsk(int ask) {
        return !within(ask, 0, asks.size() - 1);
    }

    private int sum(int f) {
        return in.stream().mapToInt(t -> things.get(t)[f]).sum();
    }

    int put(int f0, int f1, int f2, int f3) {
        int[] fields = {f0, f1, f2, f3};
        for (int v : fields) {
            if (!within(v, 0, 99)) {
                return -1;
            }
        }
        for (int i = 0; i < 4; i++) {
            int f = i;
            if (unlike[f] == 1 && in.stream().anyMatch(t -> things.get(t)[f] == fields[f])) {
                return -5;
            }
            if (most[f] != -1 && sum(f) + fields[f] > most[f]) {
                return -5;
            }
        }
        if (things.size() == 80) {
            return -3;
        }
        things.add(fields);
        in.add(things.size() - 1);
        stones.forEach(s -> s.put(things.size() - 1));
        return things.size() - 1;
    }

    int take(int thing) {
        if (!within(thing, 0, things.size() - 1)) {
            return -1;
        }
        if (!in.remove((Integer) thing)) {
            return -2;
        }
        stones.forEach(s -> s.take(thing));
        return 1;
    }

    int of(int thing, int f) {
        if (!within(thing, 0, things.size() - 1) || !within(f, 0, 4)) {
            return -1;
        }
        return f == 4 ? in.contains(thing) ? 1 : 0 : things.get(thing)[f];
    }

    int unlike(int f, int is) {
        if (!within(f, 0, 3) || !within(is, 0, 1)) {
            return -1;
        }
        if (is == 1 && in.stream().map(t -> things.get(t)[f]).distinct().count() < in.size()) {
            return -5;
        }
        int was = unlike[f];
        unlike[f] = is;
        return was;
    }

    int most(int f, int v) {
        if (!within(f, 0, 3) || !within(v, -1, 9999)) {
            return -2000000000;
        }
        if (v != -1 && sum(f) > v) {
            return -2;
        }
        int was = most[f];
        most[f] = v;
        return was;
    }

    int feed(int n, int v) {
        if (!within(n, 1, 4)) {
            return -1;
        }
        if (tape.length() + n > 60) {
            return -3;
        }
        for (int i = 0, left = v; i < n; i++, left >>= 8) {
            tape.append((char) (left & 0xFF));
        }
        return tape.length();
    }

    int ask() {
        if (asks.size() == 10) {
            return -3;
        }
        String text = tape.toString();
        tape.setLength(0);
        int fault = PlainAsk.fault(text);
        if (fault >= 0) {
            return -100 - fault;
        }
        asks.add(new PlainAsk(text));
        often.add(1);
        return asks.size() - 1;
    }

    int often(int ask, int v) {
        return noAsk(ask) || !within(v, 0, 99) ? -1 : often.set(ask, v);
    }

    int answer(int ask, int a, int b) {
        return noAsk(ask) || !within(a, 0, 99) || !within(b, 0, 99) ? -2000000000
                : asks.get(ask).over(things, in, a, b);
    }

    int stone(int kind, int key) {
        if (!within(kind, 0, 7) || !within(key, 0, 3)) {
            return -1;
        }
        if (stones.size() == 10) {
            return -3;
        }
        PlainStone fresh = new PlainStone(kind, key, things);
        in.forEach(fresh::put);
        bodies.add(PlainBodies.of(kind, stones.size(), key));
        stones.add(fresh);
        return stones.size() - 1;
    }

    int ofStone(int stone, int what) {
        if (noStone(stone) || !within(what, 0, 4)) {
            return -1;
        }
        PlainStone s = stones.get(stone);
        return new int[] {s.kind, s.key, s.size(), s.all, s.latest}[what];
    }

    int nameAt(int stone, int i) {
        if (noStone(stone)) {
            return -1;
        }
        List<Integer> names = stones.get(stone).names();
        return within(i, 0, names.size() - 1) ? names.get(i) : -1;
    }

    int through(int stone, int ask, int a, int b) {
        if (noStone(stone) || noAsk(ask) || !within(a, 0, 99) || !within(b, 0, 99)) {
            return -2000000000;
        }
        int answer = stones.get(stone).through(asks.get(ask), a, b);
        looks = answer == -2 ? looks : stones.get(stone).looks;
        return answer;
    }

    int looks() {
        return looks;
    }

    int firstUnlike(int ask, int a, int b) {
        if (noAsk(ask) || !within(a, 0, 99) || !within(b, 0, 99)) {
            return -1;
        }
        int due = asks.get(ask).over(things, in, a, b);
        for (PlainStone s : stones) {
            int answer = s.through(asks.get(ask), a, b);
            if (answer != -2 && answer != -6 && answer != due) {
                return stones.indexOf(s);
            }
        }
        return -2;
    }

    int price(int stone, int ask, int n) {
        if (noStone(stone) || noAsk(ask) || !within(n, 1, 999)) {
            return -1;
        }
        return asks.get(ask).price(stones.get(stone).kind, stones.get(stone).key, n);
    }

    int putPrice(int stone, int n) {
        if (noStone(stone) || !within(n, 1, 999)) {
            return -1;
        }
        int l = Integer.toBinaryString(n).length();
        return new int[] {0, 1, l + n / 2, l, 1, 2 * l, 2, l + n / 2}[stones.get(stone).kind];
    }

    private boolean noPlan(int bits) {
        return bits < 0 || bits >> stones.size() != 0;
    }

    int plan(int bits, int n, int puts) {
        if (noPlan(bits) || !within(n, 1, 999) || !within(puts, 0, 999)) {
            return -1;
        }
        int price = 0;
        for (int ask = 0; ask < asks.size(); ask++) {
            int stone = goesThrough(bits, ask, n);
            if (stone < 0 && often.get(ask) > 0) {
                return -2;
            }
            price += stone < 0 ? 0 : often.get(ask) * price(stone, ask, n);
        }
        for (int stone = 0; stone < stones.size(); stone++) {
            price += (bits & 1 << stone) == 0 ? 0 : puts * putPrice(stone, n);
        }
        return Math.min(price, 1999999999);
    }

    int leastPlan(int n, int puts, int k) {
        if (!within(n, 1, 999) || !within(puts, 0, 999) || !within(k, 1, 4)) {
            return -1;
        }
        int[] best = null;
        for (int bits = 0; bits < 1 << stones.size(); bits++) {
            int[] one = {plan(bits, n, puts), Integer.bitCount(bits), bits};
            if (one[0] >= 0 && one[1] <= k && (best == null || java.util.Arrays.compare(one, best) < 0)) {
                best = one;
            }
        }
        return best == null ? -2 : best[2];
    }

    int goesThrough(int bits, int ask, int n) {
        if (noPlan(bits) || noAsk(ask) || !within(n, 1, 999)) {
            return -1;
        }
        int best = -2;
        for (int stone = stones.size() - 1; stone >= 0; stone--) {
            int price = (bits & 1 << stone) == 0 ? -2 : price(stone, ask, n);
            if (price >= 0 && (best < 0 || price <= price(best, ask, n))) {
                best = stone;
            }
        }
        return best;
    }

    int drift(int first, int second) {
        if (!within(first, 0, 999) || !within(second, 0, 999)) {
            return -1;
        }
        if (days.size() == 12) {
            return -3;
        }
        days.add(new int[] {first, second});
        return days.size();
    }

    int drifted(int c, int what) {
        if (!within(c, 0, 999) || !within(what, 0, 2) || days.isEmpty()) {
            return -1;
        }
        int[][] told = days.toArray(NO_DAYS);
        return what == 0 ? Math.min(least(told, c, 0, 0), least(told, c, 0, 1)) : ruled(told, c)[what - 1];
    }

    /** The least sum from a day on, with a plan in use on it: each way is gone. */
    private static int least(int[][] days, int c, int day, int plan) {
        int rest = day + 1 == days.length ? 0
                : Math.min(least(days, c, day + 1, plan), c + least(days, c, day + 1, 1 - plan));
        return days[day][plan] + rest;
    }

    /** At each day the days are gone through again, from the one on which the plan in use came. */
    private static int[] ruled(int[][] days, int c) {
        int plan = 0;
        int came = 0;
        int sum = days[0][0];
        int changes = 0;
        for (int day = 1; day < days.length; day++) {
            int more = 0;
            for (int ago = came; ago < day; ago++) {
                more += days[ago][plan] - days[ago][1 - plan];
                more = more > 0 ? more : 0;
            }
            if (more >= c) {
                plan = 1 - plan;
                came = day;
                changes++;
                sum += c;
            }
            sum += days[day][plan];
        }
        return new int[] {sum, changes};
    }

    int undrift() {
        int was = days.size();
        days.clear();
        return was;
    }

    int cell(int cell) {
        if (!within(cell, 0, 99)) {
            return -1;
        }
        if (cells.size() == 60) {
            return -3;
        }
        cells.add(cell);
        return cells.size();
    }

    int misses(int w, int f, int what) {
        if (!within(w, 1, 8) || !within(f, 1, 8) || !within(what, 0, 1) || cells.isEmpty()) {
            return -1;
        }
        List<Integer> lines = cells.stream().map(c -> c / w).toList();
        List<Integer> shelf = new ArrayList<>();
        int misses = 0;
        for (int i = 0; i < lines.size(); i++) {
            if (!shelf.contains(lines.get(i))) {
                misses++;
                if (shelf.size() == f) {
                    shelf.remove((Integer) goes(shelf, lines, i, what));
                }
                shelf.add(lines.get(i));
            }
        }
        return misses;
    }

    /** Which of a shelf goes at i. */
    private static int goes(List<Integer> shelf, List<Integer> lines, int i, int what) {
        List<Integer> behind = lines.subList(i, lines.size());
        int goes = -1;
        long goesBy = -1;
        for (int line : shelf.stream().sorted().toList()) {
            int again = behind.indexOf(line);
            long by = what == 0 ? i - lines.subList(0, i).lastIndexOf(line) : again < 0 ? 1000 : again;
            if (by > goesBy) {
                goes = line;
                goesBy = by;
            }
        }
        return goes;
    }

    int uncell() {
        int was = cells.size();
        cells.clear();
        return was;
    }

    int key(int often, int ahead) {
        if (!within(often, 0, 99) || !within(ahead, 0, 99)) {
            return -1;
        }
        if (keys.size() == 9) {
            return -3;
        }
        keys.add(new int[] {often, ahead});
        return keys.size();
    }

    int leastLooks(int behind) {
        if (!within(behind, 0, 99) || keys.isEmpty()) {
            return -1;
        }
        int size = keys.size();
        keys.add(new int[] {0, behind});
        int least = looksOf(0, size, 0);
        root = 0;
        while (looksWith(root, 0, size, 0) != least) {
            root++;
        }
        keys.clear();
        return least;
    }

    /** All trees over the keys of a stretch, whose root lies so deep. */
    private int looksOf(int from, int to, int depth) {
        int least = from == to ? keys.get(from)[1] * depth : Integer.MAX_VALUE;
        for (int at = from; at < to; at++) {
            least = Math.min(least, looksWith(at, from, to, depth));
        }
        return least;
    }

    private int looksWith(int at, int from, int to, int depth) {
        return keys.get(at)[0] * (depth + 1) + looksOf(from, at, depth + 1) + looksOf(at + 1, to, depth + 1);
    }

    int root() {
        return root;
    }

    int walk(int is) {
        if (!within(is, 0, 1)) {
            return -1;
        }
        if (frozen.size() == 4) {
            return -3;
        }
        frozen.add(is == 1 ? new ArrayDeque<>(in) : null);
        return frozen.size() - 1;
    }

    int next(int walk) {
        if (!within(walk, 0, frozen.size() - 1)) {
            return -1;
        }
        if (frozen.get(walk) != null) {
            return frozen.get(walk).isEmpty() ? -1 : frozen.get(walk).poll();
        }
        int next = in.stream().filter(t -> t > walked[walk]).findFirst().orElse(-1);
        walked[walk] = next < 0 ? walked[walk] : next;
        return next;
    }

    int act(int stone, int act, int x) {
        ran = new ArrayList<>();
        if (noStone(stone) || !within(act, 0, 3)) {
            return 0;
        }
        PlainBodies.Stone body = bodies.get(stone);
        body.ran.clear();
        int answer = act == 0 ? body.finds(x) : act == 1 ? body.mends(x) : act == 2 ? body.keeps(x) : body.tells(x);
        ran.addAll(body.ran);
        return answer;
    }

    int trace(int i) {
        return within(i, 0, Math.min(ran.size(), 24) - 1) ? ran.get(i) : -1;
    }

    int keep(int shelf, int stone) {
        if (!within(shelf, 0, 5) || stone != -1 && noStone(stone)) {
            return -1;
        }
        shelves.keep(shelf, stone == -1 ? null : bodies.get(stone));
        return 1;
    }

    int row(int shelf, int sort, int n) {
        return shelves.row(shelf, sort, n);
    }

    int set(int shelf, int i, long v) {
        return shelves.set(shelf, i, v);
    }

    long element(int shelf, int i) {
        return shelves.element(shelf, i);
    }

    int shift(int shelf, int i, int other, int j, int n) {
        return shelves.shift(shelf, i, other, j, n);
    }

    int taken(int shelf, int k) {
        return shelves.taken(shelf, k);
    }

    int things(int shelf, int i, int n) {
        return shelves.things(shelf, i, n, this);
    }

    int count(int what) {
        int[] counts = {things.size(), in.size(), asks.size(), stones.size(), tape.length(), frozen.size(), ran.size()};
        return within(what, 0, 6) ? counts[what] : -1;
    }
}
