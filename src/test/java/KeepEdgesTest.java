/** Terms 1, things and laws, and promises 1 to 6: a test for each sentence that names an edge. */
public final class KeepEdgesTest {
    public static void main(String[] args) {
        nothingKept();
        upTo512Calls();
        thingsAsTheyArePut();
        fullKeep();
        valuesAtTheirEdges();
        goneNeverComesBack();
        takeTwice();
        ofGoneOnes();
        unlikeEmptyAndOne();
        unlikeByFields();
        unlikeAmongThoseIn();
        unlikeWhatItWas();
        mostNoneAtFirst();
        mostJustHeld();
        mostOfNothing();
        mostAtItsEdges();
        mostAmongThoseIn();
        bothLaws();
        refusedByEachLaw();
        Check.end();
    }

    /** "Nothing kept, no asks, no stones." */
    private static void nothingKept() {
        for (int what = 0; what <= 6; what++) {
            Check.due("new: count(" + what + ")", new StonesAsked().count(what), 0);
        }
        Bounds.refused("new: take", World::none, -1, x -> x.take(0));
        Bounds.refused("new: of", World::none, -1, x -> x.of(0, 4));
        Bounds.refused("new: often", World::none, -1, x -> x.often(0, 1));
        Bounds.refused("new: answer", World::none, -2000000000, x -> x.answer(0, 0, 0));
        Bounds.refused("new: ofStone", World::none, -1, x -> x.ofStone(0, 0));
        Bounds.refused("new: nameAt", World::none, -1, x -> x.nameAt(0, 0));
        Bounds.refused("new: through", World::none, -2000000000, x -> x.through(0, 0, 0, 0));
        Bounds.refused("new: firstUnlike", World::none, -1, x -> x.firstUnlike(0, 0, 0));
        Bounds.refused("new: price", World::none, -1, x -> x.price(0, 0, 1));
        Bounds.refused("new: putPrice", World::none, -1, x -> x.putPrice(0, 1));
        Bounds.refused("new: goesThrough", World::none, -1, x -> x.goesThrough(0, 0, 1));
        Bounds.refused("new: drifted", World::none, -1, x -> x.drifted(0, 0));
        Bounds.refused("new: misses", World::none, -1, x -> x.misses(1, 1, 0));
        Bounds.refused("new: leastLooks", World::none, -1, x -> x.leastLooks(0));
        Bounds.refused("new: root", World::none, -1, StonesAsked::root);
        Bounds.refused("new: next", World::none, -1, x -> x.next(0));
        Bounds.refused("new: act", World::none, 0, x -> x.act(0, 0, 1));
        Bounds.refused("new: trace", World::none, -1, x -> x.trace(0));
        Bounds.refused("new: keep", World::none, -1, x -> x.keep(0, 0));
        for (int shelf = 0; shelf < 6; shelf++) {
            int of = shelf;
            Bounds.refused("new: taken", World::none, -11, x -> x.taken(of, 0));
            Bounds.refused("new: set", World::none, -11, x -> x.set(of, 0, 1));
            Bounds.refused("new: element", World::none, Long.MIN_VALUE, x -> x.element(of, 0));
        }
        Check.due("new: looks", new StonesAsked().looks(), 0);
    }

    /** "An object is used for at most 512 calls after it has been made." */
    private static void upTo512Calls() {
        StonesAsked x = new StonesAsked();
        x.stone(1, 0);
        for (int call = 2; call <= 511; call++) {
            Check.due("call " + call, call % 2 == 0 ? x.feed(1, ':') : x.ask(), call % 2 == 0 ? 1 : -101);
        }
        Check.due("call 512", x.put(1, 2, 3, 4), 0);
    }

    /** "THINGS 0 .. 79, as they are put": refused ones take no number, and none is given twice. */
    private static void thingsAsTheyArePut() {
        StonesAsked x = new StonesAsked();
        Check.due("the first", x.put(0, 0, 0, 0), 0);
        Check.due("refused", x.put(100, 0, 0, 0), -1);
        Check.due("the second", x.put(0, 0, 0, 0), 1);
        x.take(1);
        Check.due("the third", x.put(0, 0, 0, 0), 2);
        x.unlike(1, 0);
        x.most(0, 0);
        Check.due("refused", x.put(1, 0, 0, 0), -5);
        Check.due("the fourth", x.put(0, 0, 0, 0), 3);
    }

    /** FULL: 80 were put, whether they are IN or GONE. */
    private static void fullKeep() {
        Bounds.refused("the 81st", World::full, -3, x -> x.put(90, 0, 0, 0));
        StonesAsked x = World.full();
        Check.due("put", x.count(0), 80);
        Check.due("the last has number 79", x.of(79, 0), 79);
        Check.due("there is no 80", x.of(80, 0), -1);
        Check.due("take the last", x.take(79), 1);
        Check.due("no room for it", x.put(79, 0, 0, 0), -3);
        for (int thing = 0; thing < 79; thing++) {
            x.take(thing);
        }
        Check.due("none is in", x.count(1), 0);
        Check.due("no room yet", x.put(79, 0, 0, 0), -3);
        StonesAsked y = Check.withKeys(new int[79]);
        Check.due("79 are put", y.count(0), 79);
        Check.due("the 80th", y.put(0, 0, 0, 0), 79);
        Check.due("the 81st", y.put(0, 0, 0, 0), -3);
    }

    /** "FIELDS 0 .. 3 (each 0 .. 99)": both edges are kept, each field for itself. */
    private static void valuesAtTheirEdges() {
        for (int at = 0; at < 4; at++) {
            StonesAsked x = new StonesAsked();
            int[] f = {0, 0, 0, 0};
            f[at] = 99;
            Check.due("put", x.put(f[0], f[1], f[2], f[3]), 0);
            Check.due("put", x.put(99 - f[0], 99 - f[1], 99 - f[2], 99 - f[3]), 1);
            for (int field = 0; field < 4; field++) {
                Check.due("field " + field, x.of(0, field), f[field]);
                Check.due("field " + field, x.of(1, field), 99 - f[field]);
            }
        }
    }

    /** "A THING is IN, or GONE (it never comes back)." */
    private static void goneNeverComesBack() {
        StonesAsked x = Check.withKeys(5, 6);
        x.take(0);
        Check.due("gone", x.of(0, 4), 0);
        Check.due("a like one", x.put(5, 0, 0, 0), 2);
        Check.due("is not the one that went", x.of(0, 4), 0);
        Check.due("is in", x.of(2, 4), 1);
        x.take(2);
        x.take(1);
        Check.due("none is in", x.count(1), 0);
        for (int thing = 0; thing < 3; thing++) {
            Check.due("gone", x.of(thing, 4), 0);
        }
    }

    /** take: "BAD; NOT: it was." */
    private static void takeTwice() {
        Bounds.refused("it was gone", World::some, -2, x -> x.take(2));
        StonesAsked x = Check.withKeys(5);
        Check.due("take", x.take(0), 1);
        Check.due("take again", x.take(0), -2);
        Check.due("and again", x.take(0), -2);
        Check.due("no such", x.take(1), -1);
    }

    /** of: fields of what is GONE are told as before; 4: 1, 0. */
    private static void ofGoneOnes() {
        StonesAsked x = new StonesAsked();
        x.put(1, 2, 3, 4);
        for (int in = 1; in >= 0; in--) {
            for (int f = 0; f < 4; f++) {
                Check.due("of", x.of(0, f), 1 + f);
            }
            Check.due("of 4", x.of(0, 4), in);
            x.take(0);
        }
    }

    /** UNLIKE holds where no two are: of nothing, and of one. */
    private static void unlikeEmptyAndOne() {
        StonesAsked x = new StonesAsked();
        Check.due("of nothing", x.unlike(0, 1), 0);
        Check.due("one", x.put(5, 5, 5, 5), 0);
        Check.due("of one", x.unlike(1, 1), 0);
        Check.due("two unlike", x.put(6, 6, 5, 5), 1);
        Check.due("of two alike", x.unlike(2, 1), -5);
        Check.due("like by field 0", x.put(6, 7, 7, 7), -5);
        Check.due("like by field 1", x.put(7, 5, 7, 7), -5);
        Check.due("the first and the last one count", x.put(5, 7, 7, 7), -5);
    }

    /** UNLIKE of a FIELD binds that field alone. */
    private static void unlikeByFields() {
        for (int f = 0; f < 4; f++) {
            for (int like = 0; like < 4; like++) {
                int[] v = {99, 99, 99, 99};
                v[like] = 0;
                StonesAsked x = new StonesAsked();
                x.unlike(f, 1);
                x.put(0, 0, 0, 0);
                Check.due("unlike " + f + ", like by " + like, x.put(v[0], v[1], v[2], v[3]), like == f ? -5 : 1);
            }
        }
    }

    /** "no two that are IN have one value of it": what is GONE does not count. */
    private static void unlikeAmongThoseIn() {
        StonesAsked x = Check.withKeys(5, 5);
        Check.due("does not hold", x.unlike(0, 1), -5);
        x.take(0);
        Check.due("holds", x.unlike(0, 1), 0);
        Check.due("like the one that is in", x.put(5, 0, 0, 0), -5);
        x.take(1);
        Check.due("like those that are gone", x.put(5, 0, 0, 0), 2);
        Bounds.refused("two alike", () -> Check.withKeys(1, 2, 1), -5, y -> y.unlike(0, 1));
    }

    /** "holds (is 1), or need not (0): what it was." */
    private static void unlikeWhatItWas() {
        StonesAsked x = Check.withKeys(5, 6);
        Check.due("need not, at first", x.unlike(0, 0), 0);
        Check.due("holds", x.unlike(0, 1), 0);
        Check.due("holds again", x.unlike(0, 1), 1);
        Check.due("need not", x.unlike(0, 0), 1);
        Check.due("need not again", x.unlike(0, 0), 0);
        x.put(5, 0, 0, 0);
        Check.due("does not hold", x.unlike(0, 1), -5);
        Check.due("it stays as it was", x.unlike(0, 0), 0);
    }

    /** "none at first": more than 9999 cannot come together, so 9999 refuses nothing. */
    private static void mostNoneAtFirst() {
        StonesAsked x = new StonesAsked();
        StonesAsked y = new StonesAsked();
        for (int f = 0; f < 4; f++) {
            Check.due("at first", y.most(f, 9999), -1);
        }
        for (int i = 0; i < 80; i++) {
            Check.due("free", x.put(99, 99, 99, 99), i);
            Check.due("free by 9999", y.put(99, 99, 99, 99), i);
        }
        for (int f = 0; f < 4; f++) {
            Check.due("it was none", x.most(f, 7919), -2);
            Check.due("80 times 99 just holds", x.most(f, 7920), -1);
            Check.due("what it was", y.most(f, -1), 9999);
        }
    }

    /** "so much at most": the sum may come to it, and not above it. */
    private static void mostJustHeld() {
        for (int f = 0; f < 4; f++) {
            int[] v = {0, 0, 0, 0};
            StonesAsked x = new StonesAsked();
            x.most(f, 150);
            v[f] = 99;
            Check.due("99", x.put(v[0], v[1], v[2], v[3]), 0);
            v[f] = 52;
            Check.due("151", x.put(v[0], v[1], v[2], v[3]), -5);
            v[f] = 51;
            Check.due("150", x.put(v[0], v[1], v[2], v[3]), 1);
            v[f] = 1;
            Check.due("151", x.put(v[0], v[1], v[2], v[3]), -5);
            v[f] = 0;
            Check.due("150 and 0", x.put(v[0], v[1], v[2], v[3]), 2);
            Check.due("149 would not hold", x.most(f, 149), -2);
            Check.due("150 holds", x.most(f, 150), 150);
        }
    }

    /** MOST 0: things whose value is 0 may come. */
    private static void mostOfNothing() {
        StonesAsked x = new StonesAsked();
        Check.due("0 of nothing", x.most(1, 0), -1);
        Check.due("1", x.put(0, 1, 0, 0), -5);
        Check.due("0", x.put(1, 0, 1, 1), 0);
        Check.due("0 again", x.put(1, 0, 1, 1), 1);
        Check.due("what it was", x.most(1, -1), 0);
        Check.due("none now", x.put(0, 1, 0, 0), 2);
        Check.due("0 would not hold", x.most(1, 0), -2);
    }

    /** "MOST of a FIELD becomes v (-1: none): what it was (-1). VOID: BAD; NOT: it would not hold." */
    private static void mostAtItsEdges() {
        Bounds.refused("would not hold", () -> Check.withKeys(50, 51), -2, x -> x.most(0, 100));
        Bounds.refused("0 would not hold", () -> Check.withKeys(0, 1), -2, x -> x.most(0, 0));
        StonesAsked x = Check.withKeys(50, 51);
        Check.due("just holds", x.most(0, 101), -1);
        Check.due("none", x.most(0, -1), 101);
        Check.due("none again", x.most(0, -1), -1);
        Check.due("the most", x.most(0, 9999), -1);
        Check.due("too little", x.most(0, 100), -2);
        Check.due("it stays", x.most(0, 9999), 9999);
    }

    /** "the sum over all that are IN": what is GONE does not count. */
    private static void mostAmongThoseIn() {
        StonesAsked x = Check.withKeys(60, 40);
        Check.due("99 would not hold", x.most(0, 99), -2);
        x.take(0);
        Check.due("40 holds", x.most(0, 40), -1);
        Check.due("1 more", x.put(1, 0, 0, 0), -5);
        x.take(1);
        Check.due("41 of nothing", x.put(41, 0, 0, 0), -5);
        Check.due("40 of nothing", x.put(40, 0, 0, 0), 2);
    }

    /** "BAD; STATE: a LAW would break": one law is enough, whatever the other ones say. */
    private static void bothLaws() {
        StonesAsked x = new StonesAsked();
        x.unlike(0, 1);
        x.most(0, 10);
        Check.due("5", x.put(5, 0, 0, 0), 0);
        Check.due("like, and within", x.put(5, 0, 0, 0), -5);
        Check.due("unlike, and beyond", x.put(6, 0, 0, 0), -5);
        Check.due("unlike, and within", x.put(4, 0, 0, 0), 1);
        Check.due("BAD stands ahead of STATE", x.put(5, 0, 0, -1), -1);
        Check.due("BAD stands ahead of STATE", x.put(5, 100, 0, 0), -1);
    }

    /** "What would break one is refused", by each field, and nothing has changed then. */
    private static void refusedByEachLaw() {
        Bounds.refused("unlike 3", World::some, -5, x -> x.put(50, 50, 9, 13));
        Bounds.refused("unlike 3, the first", World::some, -5, x -> x.put(50, 50, 9, 10));
        Bounds.refused("unlike 3, the last", World::some, -5, x -> x.put(50, 50, 9, 15));
        for (int f = 0; f < 4; f++) {
            int of = f;
            Bounds.refused("most of " + f, () -> {
                StonesAsked x = World.some();
                int[] sums = {120, 164, 18, 63};
                Check.holds("told", x.most(of, sums[of]) != -2);
                return x;
            }, -5, x -> x.put(1, 1, 1, 77));
            Bounds.refused("unlike of " + f, () -> {
                StonesAsked x = World.some();
                Check.holds("told", x.unlike(of, 1) != -5);
                return x;
            }, -5, x -> x.put(of == 0 ? 9 : 50, of == 1 ? 15 : 50, of == 2 ? 4 : 50, of == 3 ? 13 : 50));
        }
        StonesAsked x = World.some();
        Check.due("what went with 2 is free", x.put(5, 10, 3, 12), 6);
    }
}
