/**
 * All that can be seen of an object, as one text: two objects that had the same calls look alike. The last
 * looks (at the tape, walks, laws and so on) change it, so that an object is looked at but once.
 */
final class Sight {
    /** Of the 512 calls that are promised World.some() takes fewer than 100, World.full() some 220. */
    private static final int MOST_CALLS_SMALL = 400, MOST_CALLS = 285;

    private final StonesAsked x;
    private final boolean small;
    private final StringBuilder text = new StringBuilder();
    private int calls;

    private Sight(StonesAsked x) {
        this.x = x;
        this.small = x.count(0) <= 10;
    }

    static String of(StonesAsked x) {
        Sight sight = new Sight(x);
        sight.counts();
        sight.things();
        sight.stones();
        sight.told();
        sight.shelves();
        sight.asksAndTape();
        sight.walksAndLaws();
        sight.lastOnes();
        Check.holds("looking at an object takes few calls: " + sight.calls,
                sight.calls <= (sight.small ? MOST_CALLS_SMALL : MOST_CALLS));
        return sight.text.toString();
    }

    private long tell(String what, long answer) {
        calls++;
        text.append(what).append(" = ").append(answer).append("\n");
        return answer;
    }

    private void counts() {
        for (int what = 0; what <= 6; what++) {
            tell("count " + what, x.count(what));
        }
        tell("looks", x.looks());
        tell("root", x.root());
    }

    private void things() {
        int count = x.count(0);
        for (int thing = 0; thing < count; thing++) {
            if (small || thing < 2 || thing == count - 1) {
                for (int f = 0; f <= 4; f++) {
                    tell("of " + thing + " " + f, x.of(thing, f));
                }
            }
        }
    }

    private void stones() {
        int last = x.count(1) - 1;
        for (int stone = 0; stone < x.count(3); stone++) {
            for (int what = small ? 0 : 2; what <= 4; what++) {
                tell("ofStone " + stone + " " + what, x.ofStone(stone, what));
            }
            for (int i = 0; i <= last; i++) {
                if (small || i == last) {
                    tell("nameAt " + stone + " " + i, x.nameAt(stone, i));
                }
            }
        }
    }

    private void told() {
        for (int what = 0; what <= 2; what++) {
            tell("drifted " + what, x.drifted(3, what));
        }
        for (int what = 0; what <= 1; what++) {
            tell("misses " + what, x.misses(4, 2, what));
        }
        for (int i = 0; i <= Math.min(x.count(6), 24); i++) {
            tell("trace " + i, x.trace(i));
        }
    }

    private void shelves() {
        int[] places = small ? new int[] {0, 1, 2, 3, 8, 9, 59, 60} : new int[] {0, 59, 60};
        for (int shelf = 0; shelf < 6; shelf++) {
            tell("taken " + shelf, x.taken(shelf, 0));
            for (int i : places) {
                tell("element " + shelf + " " + i, x.element(shelf, i));
            }
        }
    }

    private void asksAndTape() {
        int asks = x.count(2);
        for (int ask = 0; ask < asks; ask++) {
            tell("answer " + ask, x.answer(ask, 5, 50));
            for (int stone = 0; stone < x.count(3) && (small || ask == 0); stone++) {
                tell("through " + stone + " " + ask, x.through(stone, ask, 5, 50));
                tell("looks", x.looks());
            }
        }
        tell("plan", x.plan((1 << x.count(3)) - 1, 9, 9));
        tell("feed", x.feed(3, 0x6E3A61));
        tell("ask", x.ask());
        tell("answer of the tape", x.answer(asks, 5, 50));
        tell("tape", x.count(4));
        for (int ask = 0; ask < asks; ask++) {
            tell("often " + ask, x.often(ask, 0));
        }
    }

    private void walksAndLaws() {
        for (int walk = 0; walk < 4; walk++) {
            for (int i = 0; i < (small ? 7 : 2); i++) {
                tell("next " + walk, x.next(walk));
            }
        }
        for (int f = 0; f < 4; f++) {
            tell("unlike " + f, x.unlike(f, 0));
            tell("most " + f, x.most(f, -1));
        }
    }

    private void lastOnes() {
        tell("undrift", x.undrift());
        tell("uncell", x.uncell());
        tell("leastLooks", x.leastLooks(4));
        tell("root", x.root());
        tell("put", x.put(1, 2, 3, 4));
    }
}
