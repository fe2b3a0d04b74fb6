import java.util.ArrayList;
import java.util.Comparator;
import java.util.List;

/** A stone written anew from the document, with lists and linked knots, to stand beside the class's own. */
final class PlainStone {
    private static final class Knot {
        int thing;
        Knot less;
        Knot more;
    }

    final int kind;
    final int key;
    int all;
    int latest;
    int looks;
    private final List<int[]> things;
    private final List<Integer> names = new ArrayList<>();
    private final List<List<Integer>> buckets = new ArrayList<>();
    private final boolean[] bits = new boolean[32];
    private Knot root;

    PlainStone(int kind, int key, List<int[]> things) {
        this.kind = kind;
        this.key = key;
        this.things = things;
        for (int i = 0; i < 8; i++) {
            buckets.add(new ArrayList<>());
        }
    }

    private int keyOf(int thing) {
        return things.get(thing)[key];
    }

    private boolean less(int thing, int other) {
        return rank(thing) < rank(other);
    }

    private int rank(int thing) {
        return keyOf(thing) * 1000 + thing;
    }

    /** How many looks halves take, and where they end, for what has a rank. */
    private int[] halves(int rank) {
        int low = 0;
        int high = names.size();
        int steps = 0;
        while (low < high) {
            int middle = (low + high) / 2;
            steps++;
            if (rank(names.get(middle)) < rank) {
                low = middle + 1;
            } else {
                high = middle;
            }
        }
        return new int[] {low, steps};
    }

    void put(int thing) {
        latest = 0;
        switch (kind) {
            case 1:
                names.add(thing);
                latest = 1;
                break;
            case 2:
            case 7:
                int[] found = halves(rank(thing));
                latest = found[1] + names.size() - found[0];
                names.add(thing);
                names.sort(Comparator.comparingInt(this::rank));
                break;
            case 3:
                names.add(thing);
                up(names.size() - 1);
                break;
            case 4:
                buckets.get(keyOf(thing) % 8).add(thing);
                latest = 1;
                break;
            case 5:
                root = hang(root, thing);
                break;
            case 6:
                bits[keyOf(thing) * 7 % 32] = true;
                bits[keyOf(thing) * 11 % 32] = true;
                latest = 2;
                break;
            default:
        }
        all += latest;
    }

    private boolean up(int i) {
        if (i == 0) {
            return false;
        }
        latest++;
        int above = (i - 1) / 2;
        if (!less(names.get(i), names.get(above))) {
            return false;
        }
        java.util.Collections.swap(names, i, above);
        up(above);
        return true;
    }

    private void down(int i) {
        int best = 2 * i + 1;
        if (best >= names.size()) {
            return;
        }
        if (best + 1 < names.size()) {
            latest++;
            best += less(names.get(best + 1), names.get(best)) ? 1 : 0;
        }
        latest++;
        if (less(names.get(best), names.get(i))) {
            java.util.Collections.swap(names, i, best);
            down(best);
        }
    }

    private Knot hang(Knot at, int thing) {
        if (at == null) {
            Knot fresh = new Knot();
            fresh.thing = thing;
            return fresh;
        }
        latest++;
        if (less(thing, at.thing)) {
            at.less = hang(at.less, thing);
        } else {
            at.more = hang(at.more, thing);
        }
        return at;
    }

    private Knot cut(Knot at, int thing) {
        latest++;
        if (at.thing != thing) {
            if (less(thing, at.thing)) {
                at.less = cut(at.less, thing);
            } else {
                at.more = cut(at.more, thing);
            }
            return at;
        }
        if (at.less == null) {
            return at.more;
        }
        if (at.more == null) {
            return at.less;
        }
        Knot heir = at.more;
        latest++;
        while (heir.less != null) {
            heir = heir.less;
            latest++;
        }
        at.thing = heir.thing;
        at.more = without(at.more, heir);
        return at;
    }

    private static Knot without(Knot at, Knot least) {
        if (at == least) {
            return at.more;
        }
        at.less = without(at.less, least);
        return at;
    }

    void take(int thing) {
        latest = 0;
        switch (kind) {
            case 1:
                latest = names.indexOf(thing) + 1;
                names.remove((Integer) thing);
                break;
            case 2:
            case 7:
                latest = halves(rank(thing))[1] + names.size() - 1 - names.indexOf(thing);
                names.remove((Integer) thing);
                break;
            case 3:
                int place = names.indexOf(thing);
                latest = place + 1;
                int last = names.remove(names.size() - 1);
                if (place < names.size()) {
                    names.set(place, last);
                    if (!up(place)) {
                        down(place);
                    }
                }
                break;
            case 4:
                List<Integer> bucket = buckets.get(keyOf(thing) % 8);
                latest = bucket.indexOf(thing) + 1;
                bucket.remove((Integer) thing);
                break;
            case 5:
                root = cut(root, thing);
                break;
            case 6:
                latest = 1;
                break;
            default:
        }
        all += latest;
    }

    List<Integer> names() {
        List<Integer> row = new ArrayList<>(names);
        buckets.forEach(row::addAll);
        inOrder(root, row);
        return row;
    }

    private static void inOrder(Knot at, List<Integer> row) {
        if (at != null) {
            inOrder(at.less, row);
            row.add(at.thing);
            inOrder(at.more, row);
        }
    }

    int size() {
        int set = 0;
        for (boolean bit : bits) {
            set += bit ? 1 : 0;
        }
        return kind == 6 ? set : names().size();
    }

    /** Runs an ask: NOT, MAYBE or the answer; looks are those of it. */
    int through(PlainAsk ask, int a, int b) {
        if (kind == 0 || kind == 6 && !ask.isCountOf(key)) {
            return -2;
        }
        looks = 0;
        List<Integer> seen = new ArrayList<>();
        int low = ask.least(key, a, b);
        int high = ask.most(key, a, b);
        switch (kind) {
            case 6:
                looks = 2;
                int v = ask.firstEqual(key, a, b);
                return bits[v * 7 % 32] && bits[v * 11 % 32] ? -6 : 0;
            case 7:
                if (ask.allAbout(key) && (ask.out == 'n' || ask.out == 's' && ask.outField == key)) {
                    looks = halves(low * 1000 - 1)[1] + halves((high + 1) * 1000 - 1)[1];
                    return ask.over(things, names, a, b);
                }
                sorted(seen, low, high);
                break;
            case 2:
                sorted(seen, low, high);
                break;
            case 3:
                seen.addAll(ask.out == 'm' && ask.outField == key && ask.size() == 0 && !names.isEmpty()
                        ? names.subList(0, 1) : names);
                looks = seen.size();
                break;
            case 4:
                int equal = ask.firstEqual(key, a, b);
                seen.addAll(equal >= 0 ? buckets.get(equal % 8) : names());
                looks = seen.size();
                break;
            case 5:
                tree(root, seen, low, high);
                break;
            default:
                seen.addAll(names);
                looks = seen.size();
        }
        return ask.over(things, seen, a, b);
    }

    private void sorted(List<Integer> seen, int low, int high) {
        int[] found = halves(low * 1000 - 1);
        looks = found[1];
        for (int i = found[0]; i < names.size(); i++) {
            looks++;
            if (keyOf(names.get(i)) > high) {
                return;
            }
            seen.add(names.get(i));
        }
    }

    private void tree(Knot at, List<Integer> seen, int low, int high) {
        if (at == null) {
            return;
        }
        looks++;
        int own = keyOf(at.thing);
        if (own >= low) {
            tree(at.less, seen, low, high);
        }
        if (own >= low && own <= high) {
            seen.add(at.thing);
        }
        if (own <= high) {
            tree(at.more, seen, low, high);
        }
    }
}
