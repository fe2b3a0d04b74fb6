import com.sun.management.ThreadMXBean;
import java.lang.management.ManagementFactory;

/** LANGUAGE.md, rule 12: what a run makes is small. Just a new ask and a new stone are made by a call. */
public final class RoomTest {
    private static final int ROUNDS = 20000;
    private static final ThreadMXBean BEAN = (ThreadMXBean) ManagementFactory.getThreadMXBean();

    private interface Call {
        long on(StonesAsked x, int round);
    }

    private static long sum;

    public static void main(String[] args) {
        keepAndAsks();
        stonesAndPlans();
        linesAndActs();
        shelves();
        newOnes();
        Check.holds("all was called", sum != 0);
        Check.end();
    }

    private static long bytesOf(Call call, StonesAsked x, int rounds) {
        for (int i = 0; i < rounds; i++) {
            sum += call.on(x, i);
        }
        long before = BEAN.getThreadAllocatedBytes(Thread.currentThread().getId());
        for (int i = 0; i < rounds; i++) {
            sum += call.on(x, i);
        }
        return BEAN.getThreadAllocatedBytes(Thread.currentThread().getId()) - before;
    }

    /** An object takes 16 bytes at least: one made with each call would be seen. */
    private static void makesNone(String name, StonesAsked x, Call call) {
        long bytes = bytesOf(call, x, ROUNDS);
        Check.holds(name + " makes nothing, but it took " + bytes + " bytes", bytes < 4L * ROUNDS);
    }

    private static void keepAndAsks() {
        makesNone("put", World.some(), (x, i) -> x.put(i % 100, 1, 0, i % 7));
        makesNone("take", World.some(), (x, i) -> x.take(i % 6));
        makesNone("laws", World.full(), (x, i) -> x.unlike(i & 3, i & 1) + x.most(i & 3, 9999 - i % 9));
        makesNone("of", World.full(), (x, i) -> x.of(i % 80, i % 5));
        makesNone("a faulty ask", World.some(), (x, i) -> x.feed(4, i % 2 == 0 ? 0x613D30 : 0x346D3A) + x.ask());
        makesNone("an ask too many", World.full(), (x, i) -> x.ask());
        makesNone("answer", World.full(), (x, i) -> x.answer(i % 10, i % 100, 5) + x.often(i % 10, i % 100));
    }

    private static void stonesAndPlans() {
        makesNone("a stone too many", World.full(), (x, i) -> x.stone(i % 8, 0));
        makesNone("ofStone, nameAt", World.full(), (x, i) -> x.ofStone(i % 10, i % 5) + x.nameAt(i % 10, i % 80));
        makesNone("through", World.full(), (x, i) -> x.through(i % 10, i % 9, i % 100, 7) + x.looks());
        makesNone("firstUnlike", World.full(), (x, i) -> x.firstUnlike(i % 10, i % 100, 7));
        makesNone("prices", World.full(), (x, i) -> x.price(i % 10, i % 9, 1 + i % 999) + x.putPrice(i % 10, 7));
        makesNone("plan", World.full(), (x, i) -> x.plan(i % 1024, 9, 9) + x.goesThrough(i % 1024, i % 10, 9));
        makesNone("drift", World.some(), (x, i) -> i % 9 == 0 ? x.undrift() : x.drift(i % 99, 50));
        makesNone("drifted", World.full(), (x, i) -> x.drifted(i % 1000, i % 3));
        long bytes = bytesOf((x, i) -> x.leastPlan(1 + i, 9, 4), World.full(), 300);
        Check.holds("leastPlan makes nothing, but it took " + bytes + " bytes", bytes < 4L * 300);
    }

    private static void linesAndActs() {
        makesNone("cell", World.some(), (x, i) -> i % 50 == 0 ? x.uncell() : x.cell(i % 100));
        makesNone("misses", World.full(), (x, i) -> x.misses(1 + i % 8, 1 + i / 8 % 8, i & 1));
        makesNone("keys", World.some(), (x, i) -> i % 8 == 0 ? x.leastLooks(i % 100) + x.root() : x.key(i % 100, 3));
        makesNone("walks", World.some(), (x, i) -> x.walk(i & 1) + x.next(i & 3));
        makesNone("act", World.full(), (x, i) -> x.act(i % 10, i & 3, i) + x.trace(i % 9) + x.count(6));
    }

    private static void shelves() {
        makesNone("keep", World.full(), (x, i) -> x.keep(i % 6, i % 10) + x.taken(i % 6, i % 8));
        makesNone("row", World.some(), (x, i) -> x.row(i % 6, i % 5, i % 61));
        makesNone("set, element", World.full(), (x, i) -> x.set(i % 6, i % 60, i) + x.element(i % 6, i % 60));
        makesNone("shift", World.full(), (x, i) -> x.shift(i % 6, 1, (i + i / 6) % 6, 2, 50));
        makesNone("things", World.some(), (x, i) -> x.things(2, 1, 2) + x.count(i % 7));
    }

    /** A whole life: the object, ten asks and ten stones, as large as they come; at 4 to 8 bytes an element. */
    private static void newOnes() {
        long bytes = 0;
        for (int i = 0; i < 20; i++) {
            long before = BEAN.getThreadAllocatedBytes(Thread.currentThread().getId());
            StonesAsked x = new StonesAsked();
            for (int j = 0; j < 10; j++) {
                sum += x.stone(5, 0) + x.feed(2, 0x6E3A) + x.ask();
            }
            bytes = BEAN.getThreadAllocatedBytes(Thread.currentThread().getId()) - before;
        }
        Check.holds("an object with all that it makes takes " + bytes + " bytes", bytes < 32000);
    }
}
