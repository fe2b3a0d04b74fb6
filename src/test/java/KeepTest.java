/** Promises 1 to 6: the keep and its laws. */
public final class KeepTest {
    public static void main(String[] args) {
        newObject();
        put();
        take();
        of();
        unlike();
        most();
        orderOfAnswers();
        Check.end();
    }

    private static void newObject() {
        StonesAsked x = new StonesAsked();
        for (int what = 0; what <= 6; what++) {
            Check.due("new: count(" + what + ")", x.count(what), 0);
        }
        Check.due("new: of", x.of(0, 0), -1);
        Check.due("new: answer", x.answer(0, 0, 0), -2000000000);
        Check.due("new: ofStone", x.ofStone(0, 0), -1);
        Check.due("new: looks", x.looks(), 0);
        Check.due("new: root", x.root(), -1);
        Check.due("new: next", x.next(0), -1);
        Check.due("new: trace", x.trace(0), -1);
        Check.due("new: undrift", x.undrift(), 0);
        Check.due("new: uncell", x.uncell(), 0);
        for (int shelf = 0; shelf < 6; shelf++) {
            Check.due("new: taken", x.taken(shelf, 0), -11);
        }
        for (int f = 0; f < 4; f++) {
            Check.due("new: unlike", x.unlike(f, 0), 0);
            Check.due("new: most", x.most(f, -1), -1);
        }
    }

    private static void put() {
        StonesAsked x = new StonesAsked();
        Check.due("put edges", x.put(0, 99, 0, 99), 0);
        Check.due("put low f0", x.put(-1, 0, 0, 0), -1);
        Check.due("put low f1", x.put(0, -1, 0, 0), -1);
        Check.due("put low f2", x.put(0, 0, -1, 0), -1);
        Check.due("put low f3", x.put(0, 0, 0, -1), -1);
        Check.due("put high f0", x.put(100, 0, 0, 0), -1);
        Check.due("put high f1", x.put(0, 100, 0, 0), -1);
        Check.due("put high f2", x.put(0, 0, 100, 0), -1);
        Check.due("put high f3", x.put(0, 0, 0, 100), -1);
        Check.due("put wild", x.put(Integer.MIN_VALUE, Integer.MAX_VALUE, 0, 0), -1);
        Check.due("refused ones have no number", x.count(0), 1);
        for (int i = 1; i < 80; i++) {
            Check.due("put " + i, x.put(1, 2, 3, 4), i);
        }
        Check.due("put when full", x.put(1, 2, 3, 4), -3);
        Check.due("put bad when full", x.put(1, 2, 3, 100), -1);
        x.take(5);
        Check.due("what is gone leaves no room", x.put(1, 2, 3, 4), -3);
        Check.due("things put", x.count(0), 80);
        Check.due("things in", x.count(1), 79);
    }

    private static void take() {
        StonesAsked x = new StonesAsked();
        x.put(1, 2, 3, 4);
        x.put(5, 6, 7, 8);
        Check.due("take below", x.take(-1), -1);
        Check.due("take beyond", x.take(2), -1);
        Check.due("take", x.take(0), 1);
        Check.due("take again", x.take(0), -2);
        Check.due("in", x.count(1), 1);
        Check.due("put", x.count(0), 2);
        Check.due("take last", x.take(1), 1);
        Check.due("in", x.count(1), 0);
        Check.due("a new one has a new number", x.put(1, 2, 3, 4), 2);
    }

    private static void of() {
        StonesAsked x = new StonesAsked();
        x.put(1, 2, 3, 4);
        x.put(5, 6, 7, 8);
        for (int f = 0; f < 4; f++) {
            Check.due("of(0, " + f + ")", x.of(0, f), 1 + f);
            Check.due("of(1, " + f + ")", x.of(1, f), 5 + f);
        }
        Check.due("in", x.of(0, 4), 1);
        x.take(0);
        Check.due("gone", x.of(0, 4), 0);
        Check.due("fields of one that is gone", x.of(0, 2), 3);
        Check.due("the other one", x.of(1, 4), 1);
        Check.due("no such thing", x.of(2, 0), -1);
        Check.due("no such thing", x.of(-1, 4), -1);
        Check.due("no such field", x.of(0, 5), -1);
        Check.due("no such field", x.of(0, -1), -1);
    }

    private static void unlike() {
        StonesAsked x = new StonesAsked();
        Check.due("bad field", x.unlike(4, 1), -1);
        Check.due("bad field", x.unlike(-1, 0), -1);
        Check.due("bad is", x.unlike(0, 2), -1);
        Check.due("bad is", x.unlike(0, -1), -1);
        x.put(1, 1, 1, 1);
        x.put(2, 1, 2, 2);
        Check.due("does not hold", x.unlike(1, 1), -5);
        Check.due("refused, so not told", x.unlike(1, 0), 0);
        Check.due("holds", x.unlike(0, 1), 0);
        Check.due("told again", x.unlike(0, 1), 1);
        Check.due("like one", x.put(2, 3, 3, 3), -5);
        Check.due("unlike one", x.put(3, 1, 2, 2), 2);
        x.take(1);
        Check.due("gone ones do not count", x.put(2, 1, 1, 1), 3);
        Check.due("need not", x.unlike(0, 0), 1);
        Check.due("like one", x.put(2, 1, 1, 1), 4);
        Check.due("does not hold now", x.unlike(0, 1), -5);
        x.take(3);
        Check.due("holds again", x.unlike(0, 1), 0);
    }

    private static void most() {
        StonesAsked x = new StonesAsked();
        Check.due("bad field", x.most(4, 1), -2000000000);
        Check.due("bad field", x.most(-1, 1), -2000000000);
        Check.due("bad v", x.most(0, 10000), -2000000000);
        Check.due("bad v", x.most(0, -2), -2000000000);
        Check.due("0 of nothing", x.most(2, 0), -1);
        Check.due("above it", x.put(0, 0, 1, 0), -5);
        Check.due("at it", x.put(0, 0, 0, 0), 0);
        Check.due("what it was", x.most(2, 9999), 0);
        x.put(0, 0, 60, 7);
        x.put(0, 0, 60, 7);
        Check.due("would not hold", x.most(2, 119), -2);
        Check.due("holds just", x.most(2, 120), 9999);
        Check.due("above it", x.put(0, 0, 1, 0), -5);
        Check.due("other fields are free", x.put(99, 99, 0, 99), 3);
        x.take(1);
        Check.due("gone ones do not count", x.put(0, 0, 60, 0), 4);
        Check.due("above it", x.put(0, 0, 1, 0), -5);
        Check.due("none", x.most(2, -1), 120);
        Check.due("none", x.most(2, -1), -1);
        Check.due("free", x.put(0, 0, 99, 0), 5);
    }

    private static void orderOfAnswers() {
        StonesAsked x = new StonesAsked();
        for (int i = 0; i < 80; i++) {
            x.put(i, 0, 0, 0);
        }
        x.unlike(0, 1);
        Check.due("STATE stands ahead of FULL", x.put(3, 0, 0, 0), -5);
        Check.due("FULL", x.put(90, 0, 0, 0), -3);
        Check.due("BAD stands ahead of STATE", x.put(3, 0, 0, 100), -1);
    }
}
