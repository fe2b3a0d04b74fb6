/** Terms 5, lines, least looks and walks, and promises 25 to 32: a test for each sentence that names an edge. */
public final class LineEdgesTest {
    private static final int BAD = -1;

    public static void main(String[] args) {
        sixtyCells();
        noCells();
        linesByWidth();
        shelfBySize();
        usedLongestAgo();
        usedAgainTheLatest();
        neverAgain();
        likeOnesLeastLine();
        nothingHeldAtFirst();
        usesByLines();
        nineKeys();
        noKeys();
        oneKey();
        greatestLooks();
        leastOfSeveralRoots();
        rootStays();
        fourWalks();
        walksOverNothing();
        walksOverAll();
        frozenEdges();
        movingEdges();
        behindTheLast();
        Check.end();
    }

    private static StonesAsked cells(int... cells) {
        StonesAsked x = new StonesAsked();
        for (int cell : cells) {
            x.cell(cell);
        }
        return x;
    }

    /** "cells told one by one (0 .. 99; at most 60)"; "BAD, FULL: 60." */
    private static void sixtyCells() {
        StonesAsked x = new StonesAsked();
        for (int i = 1; i <= 60; i++) {
            Check.due("refused", x.cell(100), BAD);
            Check.due("cell", x.cell(i), i);
        }
        Check.due("the 61st", x.cell(0), -3);
        Check.due("sixty", x.misses(1, 8, 0), 60);
        Bounds.refused("the 61st", World::full, -3, y -> y.cell(0));
        Bounds.refused("BAD stands ahead of FULL", World::full, BAD, y -> y.cell(-1));
        Bounds.refused("BAD stands ahead of FULL", World::full, BAD, y -> y.cell(100));
        Check.due("they go", x.uncell(), 60);
        Check.due("the first again", x.cell(99), 1);
        Check.due("nothing of those ahead", x.misses(1, 1, 0), 1);
    }

    /** misses: "BAD: also none is told"; uncell: "how many there were". */
    private static void noCells() {
        StonesAsked x = new StonesAsked();
        Check.due("none", x.uncell(), 0);
        Check.due("none", x.misses(1, 1, 0), BAD);
        Check.due("none", x.misses(8, 8, 1), BAD);
        x.cell(0);
        Check.due("one by use", x.misses(1, 1, 0), 1);
        Check.due("one by what comes", x.misses(8, 8, 1), 1);
        Check.due("the cells stay", x.uncell(), 1);
        Check.due("none", x.misses(1, 1, 0), BAD);
        Check.due("none", x.uncell(), 0);
    }

    /** "LINES of w cells (1 .. 8: LINE = cell / w)": at the edge between two lines, up to 99. */
    private static void linesByWidth() {
        for (int w = 1; w <= 8; w++) {
            for (int what = 0; what <= 1; what++) {
                StonesAsked same = cells(w * 3, w * 3 + w - 1);
                Check.due("one line of " + w, same.misses(w, 1, what), 1);
                StonesAsked next = cells(w * 3 + w - 1, w * 3 + w);
                Check.due("two lines of " + w, next.misses(w, 1, what), 2);
                StonesAsked last = cells(99, 99 / w * w, 99 / w * w - 1);
                Check.due("the last lines of " + w, last.misses(w, 1, what), 2);
            }
        }
    }

    /** "a shelf of f LINES (1 .. 8)": f lines in turn are held, f + 1 are not. */
    private static void shelfBySize() {
        for (int f = 1; f <= 8; f++) {
            StonesAsked fits = new StonesAsked();
            StonesAsked not = new StonesAsked();
            for (int i = 0; i < 2 * f; i++) {
                fits.cell(i % f);
            }
            for (int i = 0; i < 2 * (f + 1); i++) {
                not.cell(i % (f + 1));
            }
            Check.due("f lines by use", fits.misses(1, f, 0), f);
            Check.due("f lines by what comes", fits.misses(1, f, 1), f);
            Check.due("f + 1 lines by use", not.misses(1, f, 0), 2 * (f + 1));
            // the second time just one of them is missed, or both of two
            Check.due("f + 1 lines by what comes", not.misses(1, f, 1), f == 1 ? 4 : f + 2);
        }
    }

    /** "the one that was used longest ago goes (of the first ones: while there is room none)". */
    private static void usedLongestAgo() {
        StonesAsked x = cells(1, 2, 1, 3, 1, 2);
        Check.due("1 was used again", x.misses(1, 2, 0), 4);
        StonesAsked y = cells(1, 2, 3, 1, 2, 3);
        Check.due("room for all", y.misses(1, 3, 0), 3);
        Check.due("room for none to come again", y.misses(1, 2, 0), 6);
        StonesAsked z = cells(1, 1, 1, 2, 2, 1);
        Check.due("held yet", z.misses(1, 2, 0), 2);
        Check.due("gone with one line", z.misses(1, 1, 0), 3);
    }

    /** "the one goes that is used again the latest". */
    private static void usedAgainTheLatest() {
        StonesAsked x = cells(1, 2, 3, 2, 1);
        Check.due("1 goes: its next use is the latest", x.misses(1, 2, 1), 4);
        StonesAsked y = cells(2, 1, 3, 2, 1);
        Check.due("1 goes, though used last", y.misses(1, 2, 1), 4);
        StonesAsked z = cells(1, 2, 3, 1, 2, 3, 1, 2, 3);
        Check.due("knowing it ahead", z.misses(1, 2, 1), 6);
    }

    /** "(or never; ..)": one that never comes again goes ahead of all that do. */
    private static void neverAgain() {
        StonesAsked x = cells(1, 2, 9, 1, 9, 1);
        Check.due("2 never comes again", x.misses(1, 2, 1), 3);
        StonesAsked last = cells(1, 2, 3, 2, 3, 1);
        Check.due("1 comes as the last of all", last.misses(1, 2, 1), 4);
        StonesAsked never = cells(2, 1, 3, 1, 3, 1, 3);
        Check.due("2 never, 1 does", never.misses(1, 2, 1), 3);
    }

    /** "of like ones the least LINE": which of those that never come again goes changes no MISSES. */
    private static void likeOnesLeastLine() {
        StonesAsked x = cells(5, 3, 7, 8, 9);
        for (int f = 1; f <= 8; f++) {
            Check.due("each is missed once", x.misses(1, f, 1), 5);
        }
    }

    /** "while there is room none" goes, and none is there that did not come: LINE 0, or one of another asking. */
    private static void nothingHeldAtFirst() {
        for (int what = 0; what <= 1; what++) {
            for (int f = 1; f <= 8; f++) {
                StonesAsked x = cells(1, 0, 2);
                Check.due("line 0 did not come", x.misses(1, f, what), 3);
                Check.due("line 0 did not come", x.misses(2, f, what), 2);
                Check.due("asked again", x.misses(1, f, what), 3);
                Check.due("and by the other one", x.misses(1, f, 1 - what), 3);
            }
        }
    }

    /** What comes is looked for by its LINE, not by its cell. */
    private static void usesByLines() {
        // by 4: lines 1, 2, 3, 1, 2, 3
        StonesAsked x = cells(4, 8, 12, 7, 11, 15);
        Check.due("2 goes, 3 goes", x.misses(4, 2, 1), 4);
        Check.due("by use", x.misses(4, 2, 0), 6);
        // by 8: lines 0, 1, 2, 1, 0, 2: 2 needs 0 to go
        StonesAsked y = cells(7, 15, 16, 8, 0, 23);
        Check.due("lines of 8", y.misses(8, 2, 1), 4);
        Check.due("lines of 8", y.misses(8, 2, 0), 5);
    }

    /** "keys told (1 .. 9)"; "BAD, FULL: 9." */
    private static void nineKeys() {
        StonesAsked x = new StonesAsked();
        for (int i = 1; i <= 9; i++) {
            Check.due("refused", x.key(100, 0), BAD);
            Check.due("key", x.key(i == 9 ? 99 : 0, 0), i);
        }
        Check.due("the tenth", x.key(0, 0), -3);
        Bounds.refused("the tenth", World::full, -3, y -> y.key(0, 0));
        Bounds.refused("BAD stands ahead of FULL", World::full, BAD, y -> y.key(100, 0));
        Bounds.refused("BAD stands ahead of FULL", World::full, BAD, y -> y.key(0, -1));
        Check.due("the ninth is the root", x.leastLooks(0), 99);
        Check.due("the ninth is the root", x.root(), 8);
        Check.due("the first again", x.key(1, 1), 1);
    }

    /** leastLooks: "BAD: also none is told"; "the keys are none then". */
    private static void noKeys() {
        Bounds.refused("none is told", World::none, BAD, x -> x.leastLooks(0));
        Bounds.refused("none is told", World::none, BAD, x -> x.leastLooks(99));
        StonesAsked x = new StonesAsked();
        x.key(5, 1);
        Check.due("behind is BAD", x.leastLooks(100), BAD);
        Check.due("behind is BAD", x.leastLooks(-1), BAD);
        Check.due("the key stays", x.leastLooks(2), 8);
        Check.due("none then", x.leastLooks(2), BAD);
        for (int i = 1; i <= 9; i++) {
            Check.due("nine again", x.key(0, 0), i);
        }
    }

    /** One key: one LOOK for it, ahead of it and behind it. */
    private static void oneKey() {
        int[] edges = {0, 1, 99};
        for (int often : edges) {
            for (int ahead : edges) {
                for (int behind : edges) {
                    StonesAsked x = new StonesAsked();
                    x.key(often, ahead);
                    Check.due("one key", x.leastLooks(behind), often + ahead + behind);
                    Check.due("its root", x.root(), 0);
                }
            }
        }
    }

    /** Nine keys and ten gaps of 99 each, and of 0 each. */
    private static void greatestLooks() {
        StonesAsked x = new StonesAsked();
        for (int i = 0; i < 9; i++) {
            x.key(99, 99);
        }
        // keys at 1, 2 2, 3 3 3 3, 4 4: 25; six leaves of 3 knots, four of 4: 34
        Check.due("all 99", x.leastLooks(99), 99 * (25 + 34));
        for (int i = 0; i < 9; i++) {
            x.key(0, 0);
        }
        Check.due("all 0", x.leastLooks(0), 0);
        Check.due("the least root", x.root(), 0);
        for (int i = 0; i < 9; i++) {
            x.key(0, 0);
        }
        Check.due("just behind", x.leastLooks(99), 99);
        Check.due("the last is the root", x.root(), 8);
        for (int i = 0; i < 9; i++) {
            x.key(0, i == 0 ? 99 : 0);
        }
        Check.due("just ahead", x.leastLooks(0), 99);
        Check.due("the first is the root", x.root(), 0);
    }

    /** "its root (of several the least)". */
    private static void leastOfSeveralRoots() {
        StonesAsked x = new StonesAsked();
        for (int size = 1; size <= 9; size++) {
            for (int i = 0; i < size; i++) {
                x.key(1, 0);
            }
            // the least sum of depths of so many knots, and the least root of such a tree
            int[] sums = {1, 3, 5, 8, 11, 14, 17, 21, 25};
            int[] roots = {0, 0, 1, 1, 1, 2, 3, 3, 3};
            Check.due("like keys: " + size, x.leastLooks(0), sums[size - 1]);
            Check.due("the least root of " + size, x.root(), roots[size - 1]);
        }
    }

    /** root: "of the latest leastLooks() that was not BAD. BAD." */
    private static void rootStays() {
        Bounds.refused("none yet", World::none, BAD, StonesAsked::root);
        StonesAsked x = new StonesAsked();
        x.key(1, 0);
        Check.due("none yet", x.root(), BAD);
        x.key(5, 0);
        x.leastLooks(100);
        Check.due("BAD has none", x.root(), BAD);
        x.leastLooks(0);
        Check.due("its root", x.root(), 1);
        x.leastLooks(0);
        Check.due("BAD changes nothing", x.root(), 1);
        x.key(1, 0);
        Check.due("a key changes nothing", x.root(), 1);
        x.leastLooks(-1);
        Check.due("BAD changes nothing", x.root(), 1);
        x.leastLooks(0);
        Check.due("the latest", x.root(), 0);
    }

    /** "WALKS 0 .. 3"; "BAD (frozen 0, 1), FULL." */
    private static void fourWalks() {
        StonesAsked x = Check.withKeys(1, 2);
        for (int i = 0; i < 4; i++) {
            Check.due("refused", x.walk(2), BAD);
            Check.due("no walk yet", x.next(i), BAD);
            Check.due("walk", x.walk(i % 2), i);
            Check.due("walks", x.count(5), i + 1);
        }
        Check.due("the fifth", x.walk(0), -3);
        Bounds.refused("the fifth", World::full, -3, y -> y.walk(0));
        Bounds.refused("the fifth", World::full, -3, y -> y.walk(1));
        Bounds.refused("BAD stands ahead of FULL", World::full, BAD, y -> y.walk(2));
        Bounds.refused("BAD stands ahead of FULL", World::full, BAD, y -> y.walk(-1));
        for (int i = 3; i >= 0; i--) {
            Check.due("each for itself", x.next(i), 0);
        }
        for (int i = 0; i < 4; i++) {
            Check.due("each for itself", x.next(i), 1);
            Check.due("each for itself", x.next(i), -1);
        }
        Check.due("a walk that has ended makes no room", x.walk(0), -3);
    }

    /** Over nothing: -1 at once; what comes later is there for those that are not frozen. */
    private static void walksOverNothing() {
        StonesAsked x = new StonesAsked();
        x.walk(0);
        x.walk(1);
        Check.due("as they are", x.next(0), -1);
        Check.due("frozen", x.next(1), -1);
        x.put(1, 0, 0, 0);
        Check.due("it goes on", x.next(0), 0);
        Check.due("frozen", x.next(1), -1);
        StonesAsked gone = Check.withKeys(5);
        gone.take(0);
        gone.walk(0);
        gone.walk(1);
        Check.due("gone", gone.next(0), -1);
        Check.due("gone", gone.next(1), -1);
    }

    /** Over 80 things: thing 79 is the last one. */
    private static void walksOverAll() {
        for (int frozen = 0; frozen <= 1; frozen++) {
            StonesAsked x = Check.withKeys(new int[80]);
            x.walk(frozen);
            for (int thing = 0; thing < 80; thing++) {
                Check.due("next", x.next(0), thing);
            }
            Check.due("behind the last", x.next(0), -1);
            Check.due("behind the last", x.next(0), -1);
        }
    }

    /** "of FROZEN ones also if it is GONE by now": not what was GONE as it began, nor what came then. */
    private static void frozenEdges() {
        StonesAsked x = Check.withKeys(0, 1, 2, 3, 4);
        x.take(0);
        x.take(4);
        x.walk(1);
        x.take(1);
        Check.due("gone right behind its beginning", x.next(0), 1);
        x.take(2);
        x.put(5, 0, 0, 0);
        Check.due("gone by now", x.next(0), 2);
        Check.due("in yet", x.next(0), 3);
        x.take(3);
        Check.due("what came then is not there", x.next(0), -1);
        x.walk(1);
        Check.due("a later one sees just that", x.next(1), 5);
        Check.due("a later one sees just that", x.next(1), -1);
        StonesAsked full = Check.withKeys(new int[80]);
        full.walk(1);
        for (int thing = 0; thing < 80; thing++) {
            full.take(thing);
        }
        full.walk(1);
        for (int thing = 0; thing < 80; thing++) {
            Check.due("all are gone", full.next(0), thing);
        }
        Check.due("no more", full.next(0), -1);
        Check.due("nothing was in", full.next(1), -1);
    }

    /** "of others not": what is GONE as it is come to is left out, what came is there. */
    private static void movingEdges() {
        StonesAsked x = Check.withKeys(0, 1, 2, 3);
        x.walk(0);
        x.take(0);
        Check.due("the first is gone", x.next(0), 1);
        x.take(1);
        x.take(2);
        x.put(5, 0, 0, 0);
        Check.due("2 is gone", x.next(0), 3);
        Check.due("4 came", x.next(0), 4);
        Check.due("no more", x.next(0), -1);
    }

    /** "-1 behind the last one (others may go on when more come)". */
    private static void behindTheLast() {
        StonesAsked x = Check.withKeys(0);
        x.walk(0);
        x.walk(1);
        for (int walk = 0; walk < 2; walk++) {
            Check.due("next", x.next(walk), 0);
            Check.due("behind", x.next(walk), -1);
            Check.due("behind", x.next(walk), -1);
        }
        x.put(1, 0, 0, 0);
        x.take(1);
        Check.due("came and went", x.next(0), -1);
        x.put(2, 0, 0, 0);
        Check.due("it goes on", x.next(0), 2);
        Check.due("behind again", x.next(0), -1);
        Check.due("frozen", x.next(1), -1);
    }
}
