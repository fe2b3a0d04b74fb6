/** Terms 1, asks, and promises 7 to 10: a test for each sentence that names an edge. */
public final class AskEdgesTest {
    private static final String LONGEST_CONDITIONS = "0=a&".repeat(12) + "0=05&1=07:";

    public static void main(String[] args) {
        bytesOfV();
        tapeOf60();
        tapeByEachNumberOfBytes();
        tenAsks();
        fullAheadOfAll();
        tapeIsEmptyThen();
        eachByteAtEachPlace();
        allShortTapes();
        endsTooEarly();
        faultAtTheLastByte();
        longestAsks();
        numbersOfTwoDigits();
        byFormAlone();
        oftenAtItsEdges();
        lettersAtTheirEdges();
        lessAndGreaterAreStrict();
        answersOverNone();
        ofLikeOnesTheLeast();
        greatestSum();
        justThoseThatAreIn();
        Check.end();
    }

    /** "n (1 .. 4) bytes come to THE TAPE, the lowest of v first": what lies above them is left out. */
    private static void bytesOfV() {
        String text = ":m3";
        int v = ':' | 'm' << 8 | '3' << 16 | 200 << 24;
        for (int n = 1; n <= 4; n++) {
            StonesAsked x = new StonesAsked();
            Check.due("feed " + n, x.feed(n, v), n);
            Check.due("count", x.count(4), n);
            Check.due("ask of " + n, x.ask(), n == 3 ? 0 : n == 4 ? -103 : -100 - n);
        }
        StonesAsked bytes = new StonesAsked();
        for (int i = 0; i < 3; i++) {
            Check.due("one by one", bytes.feed(1, text.charAt(i) | 0xFFFFFF00), i + 1);
        }
        Check.due("what lies above is left out", bytes.ask(), 0);
        for (int wild : new int[] {-1, Integer.MIN_VALUE, Integer.MAX_VALUE}) {
            StonesAsked x = new StonesAsked();
            Check.due("feed wild", x.feed(4, wild), 4);
            Check.due("no ask", x.ask(), -100);
        }
    }

    /** "at most 60 bytes": FULL, if they would be more; what fits yet may come. */
    private static void tapeOf60() {
        for (int have = 56; have <= 60; have++) {
            int has = have;
            Bounds.Maker world = () -> {
                StonesAsked x = World.some();
                Check.feed(x, "z".repeat(has - x.count(4)));
                Check.due("bytes", x.count(4), has);
                return x;
            };
            for (int n = 1; n <= 4; n++) {
                int of = n;
                if (have + n <= 60) {
                    Check.due(n + " to " + have, world.make().feed(n, 0), have + n);
                } else {
                    Bounds.refused(n + " to " + have, world, -3, x -> x.feed(of, 0));
                }
            }
            Bounds.refused("BAD at " + have, world, -1, x -> x.feed(0, 0));
            Bounds.refused("BAD at " + have, world, -1, x -> x.feed(5, 0));
        }
        Bounds.refused("the tape is full", World::full, -3, x -> x.feed(1, ':'));
    }

    private static void tapeByEachNumberOfBytes() {
        for (int n = 1; n <= 4; n++) {
            StonesAsked x = new StonesAsked();
            int has = 0;
            while (has + n <= 60) {
                has += n;
                Check.due("feed " + n, x.feed(n, -1), has);
            }
            Check.due("60 go up evenly by " + n, has, 60);
            Check.due("none more", x.feed(1, -1), -3);
            Check.due("it has 60", x.count(4), 60);
        }
    }

    /** "ASKS 0 .. 9, as they come"; faults take no number. */
    private static void tenAsks() {
        StonesAsked x = new StonesAsked();
        for (int i = 0; i < 10; i++) {
            Check.due("a fault", Check.ask(x, "::"), -101);
            Check.due("ask", Check.ask(x, ":s" + i % 4), i);
            Check.due("asks", x.count(2), i + 1);
        }
        Check.due("the 11th", Check.ask(x, ":n"), -3);
        Check.due("asks", x.count(2), 10);
        x.put(1, 2, 3, 4);
        for (int i = 0; i < 10; i++) {
            Check.due("each as it came", x.answer(i, 0, 0), 1 + i % 4);
        }
        Check.due("there is no 10", x.answer(10, 0, 0), -2000000000);
    }

    /** "FULL (ahead of all; it stays)": ahead of any fault, and THE TAPE stays. */
    private static void fullAheadOfAll() {
        Bounds.refused("with 60 bytes", World::full, -3, StonesAsked::ask);
        for (String tape : new String[] {"", ":n", "zz", "0=a"}) {
            Bounds.Maker world = () -> {
                StonesAsked x = new StonesAsked();
                for (int i = 0; i < 10; i++) {
                    Check.ask(x, ":n");
                }
                Check.feed(x, tape);
                return x;
            };
            Bounds.refused("with '" + tape + "'", world, -3, StonesAsked::ask);
            StonesAsked x = world.make();
            x.ask();
            Check.due("it stays", x.count(4), tape.length());
        }
    }

    /** "THE TAPE is empty then": behind an ask and behind a fault. */
    private static void tapeIsEmptyThen() {
        StonesAsked x = new StonesAsked();
        Check.due("empty", x.ask(), -100);
        Check.due("yet empty", x.count(4), 0);
        Check.due("too early", Check.ask(x, "0="), -102);
        Check.due("empty", x.count(4), 0);
        Check.due("what was there is not", Check.ask(x, "a:n"), -100);
        Check.due("an ask", Check.ask(x, ":n"), 0);
        Check.due("empty", x.count(4), 0);
        Check.due("60 fit again", Check.feed(x, "0".repeat(60)), 60);
        Check.due("a fault", x.ask(), -101);
        Check.due("empty", x.count(4), 0);
        Check.due("60 fit again", Check.feed(x, "0".repeat(60)), 60);
    }

    /** The bytes that may stand behind each beginning are just those of the form; all others are its FAULT. */
    private static void eachByteAtEachPlace() {
        String[] heads = {"", "0", "3", "0=", "1<", "2>", "0=a", "0=b", "0=0", "0=9", "0=09", "0=a&", "0=a&1",
            "0=a&1>", "0=a:", "0=a:m", "0=a:x", "0=a:s", "0=a:n", "0=a:m0", ":", ":n", ":m", ":x", ":s", ":s3"};
        for (String head : heads) {
            for (int b = 0; b < 256; b++) {
                String text = head + (char) b;
                int fault = PlainAsk.fault(text);
                Check.due("byte " + b + " behind '" + head + "'", Check.ask(new StonesAsked(), text),
                        fault < 0 ? 0 : -100 - fault);
            }
        }
    }

    /** FAULT of all tapes of up to four signs. */
    private static void allShortTapes() {
        String signs = "03=>ab5&:nm ";
        for (int length = 0; length <= 4; length++) {
            int all = (int) Math.pow(signs.length(), length);
            for (int which = 0; which < all; which++) {
                StringBuilder text = new StringBuilder();
                for (int i = 0, left = which; i < length; i++, left /= signs.length()) {
                    text.append(signs.charAt(left % signs.length()));
                }
                int fault = PlainAsk.fault(text.toString());
                Check.due(text.toString(), Check.ask(new StonesAsked(), text.toString()),
                        fault < 0 ? 0 : -100 - fault);
            }
        }
    }

    /** "the length, if it ends too early": at each place of an ask, up to 60. */
    private static void endsTooEarly() {
        String whole = LONGEST_CONDITIONS + "m1";
        Check.due("60 bytes", whole.length(), 60);
        for (int length = 0; length < 60; length++) {
            Check.due("the first " + length, Check.ask(new StonesAsked(), whole.substring(0, length)), -100 - length);
        }
        Check.due("the whole", Check.ask(new StonesAsked(), whole), 0);
        Check.due("60, and no end", Check.ask(new StonesAsked(), "0=a&".repeat(15)), -160);
    }

    /** The place counts from 0: 59 is the last one. */
    private static void faultAtTheLastByte() {
        String head = LONGEST_CONDITIONS + "m";
        Check.due("at 59", Check.ask(new StonesAsked(), head + "4"), -159);
        Check.due("at 59, behind an ask", Check.ask(new StonesAsked(), LONGEST_CONDITIONS + "nn"), -159);
        Check.due("at 56, with no condition", Check.ask(new StonesAsked(), "0=a&".repeat(14) + ":"), -156);
        Check.due("at 0, whatever follows", Check.ask(new StonesAsked(), "4" + head), -100);
        Check.due("at 58, behind an ask", Check.ask(new StonesAsked(), "0=a&".repeat(13) + "0=05:nnn"), -158);
    }

    /** All conditions of the longest asks hold: the last one, too. */
    private static void longestAsks() {
        StonesAsked x = new StonesAsked();
        x.put(5, 7, 0, 0);
        x.put(5, 8, 0, 0);
        x.put(6, 7, 0, 0);
        x.put(5, 7, 0, 9);
        String[] ends = {"n", "m3", "x3", "s3"};
        int[] want = {2, 0, 3, 9};
        for (int i = 0; i < ends.length; i++) {
            Check.due("it is one", Check.ask(x, LONGEST_CONDITIONS + ends[i]), i);
            Check.due("fourteen hold", x.answer(i, 5, 0), want[i]);
            Check.due("the first does not", x.answer(i, 6, 0), i == 0 || i == 3 ? 0 : -1);
        }
        x.stone(1, 0);
        Check.due("through a row, too", x.through(0, 0, 5, 0), 2);
    }

    /** "a number of 2 digits": 00 to 99, and no more or fewer of them. */
    private static void numbersOfTwoDigits() {
        StonesAsked x = new StonesAsked();
        int[] values = {0, 1, 9, 10, 50, 90, 98, 99};
        for (int v : values) {
            x.put(v, 0, 0, 0);
        }
        for (int i = 0; i < values.length; i++) {
            Check.due("ask", Check.ask(x, "0=" + values[i] / 10 + values[i] % 10 + ":m0"), i);
            Check.due("the one of " + values[i], x.answer(i, 1, 2), i);
        }
        Check.due("one digit", Check.ask(x, "0=5:n"), -103);
        Check.due("three digits", Check.ask(x, "0=005:n"), -104);
        Check.due("a sign", Check.ask(x, "0=-5:n"), -102);
    }

    /** "by its form alone": what can never hold is an ask all the same. */
    private static void byFormAlone() {
        StonesAsked x = Check.withKeys(0, 50, 99);
        Check.due("never", Check.ask(x, "0=01&0=02:n"), 0);
        Check.due("never", Check.ask(x, "0>99:s0"), 1);
        Check.due("never", Check.ask(x, "0<00:m0"), 2);
        Check.due("none", x.answer(0, 0, 0), 0);
        Check.due("none", x.answer(1, 0, 0), 0);
        Check.due("none", x.answer(2, 0, 0), -1);
    }

    /** "how OFTEN (0 .. 99; told; 1 at first)". */
    private static void oftenAtItsEdges() {
        StonesAsked x = new StonesAsked();
        Check.ask(x, ":n");
        Check.ask(x, ":n");
        Check.due("1 at first", x.often(0, 0), 1);
        Check.due("0", x.often(0, 99), 0);
        Check.due("99", x.often(0, 1), 99);
        Check.due("the other one by itself", x.often(1, 5), 1);
        Bounds.refused("100", World::some, -1, y -> y.often(0, 100));
        Bounds.refused("-1", World::some, -1, y -> y.often(0, -1));
        Bounds.refused("no ask", World::some, -1, y -> y.often(3, 0));
    }

    /** "a, b (0 .. 99 each)": letters stand for what is told with each asking. */
    private static void lettersAtTheirEdges() {
        StonesAsked x = Check.withKeys(0, 99);
        Check.ask(x, "0=a:m0");
        Check.ask(x, "0=b:m0");
        Check.due("a is 0", x.answer(0, 0, 99), 0);
        Check.due("a is 99", x.answer(0, 99, 0), 1);
        Check.due("b is 0", x.answer(1, 99, 0), 0);
        Check.due("b is 99", x.answer(1, 0, 99), 1);
    }

    /** "=, < or >": a value itself is neither less nor greater. */
    private static void lessAndGreaterAreStrict() {
        StonesAsked x = Check.withKeys(0, 49, 50, 51, 99);
        String[] asks = {"0<a:n", "0=a:n", "0>a:n"};
        int[] values = {0, 1, 49, 50, 51, 98, 99};
        int[][] want = {{0, 1, 1, 2, 3, 4, 4}, {1, 0, 1, 1, 1, 0, 1}, {4, 4, 3, 2, 1, 1, 0}};
        for (int ask = 0; ask < 3; ask++) {
            Check.ask(x, asks[ask]);
            for (int i = 0; i < values.length; i++) {
                Check.due(asks[ask] + " by " + values[i], x.answer(ask, values[i], 0), want[ask][i]);
            }
        }
    }

    /** "of m, x -1, if there is none": of no things, of those that are gone, of none that fit. */
    private static void answersOverNone() {
        String[] asks = {":n", ":s0", ":m0", ":x0", "0=a:n", "0=a:s1", "0=a:m1", "0=a:x1"};
        int[] none = {0, 0, -1, -1, 0, 0, -1, -1};
        StonesAsked empty = new StonesAsked();
        StonesAsked gone = Check.withKeys(5, 6);
        gone.take(0);
        gone.take(1);
        StonesAsked others = Check.withKeys(6, 7);
        for (int i = 0; i < asks.length; i++) {
            Check.ask(empty, asks[i]);
            Check.ask(gone, asks[i]);
            Check.ask(others, asks[i]);
            Check.due(asks[i] + " of nothing", empty.answer(i, 5, 0), none[i]);
            Check.due(asks[i] + " of gone ones", gone.answer(i, 5, 0), none[i]);
            if (i >= 4) {
                Check.due(asks[i] + " of others", others.answer(i, 5, 0), none[i]);
            }
        }
    }

    /** "of like ones the least number": of m and of x. */
    private static void ofLikeOnesTheLeast() {
        StonesAsked x = Check.withKeys(7, 3, 7, 3, 7);
        Check.ask(x, ":m0");
        Check.ask(x, ":x0");
        Check.ask(x, ":m1");
        Check.ask(x, ":x1");
        int[] want = {1, 0, 0, 0};
        for (int i = 0; i < 4; i++) {
            Check.due("the first", x.answer(i, 0, 0), want[i]);
        }
        x.take(0);
        x.take(1);
        int[] then = {3, 2, 2, 2};
        for (int i = 0; i < 4; i++) {
            Check.due("then", x.answer(i, 0, 0), then[i]);
        }
    }

    /** 80 things of 99 each. */
    private static void greatestSum() {
        StonesAsked x = new StonesAsked();
        for (int i = 0; i < 80; i++) {
            x.put(99, 0, 0, 99);
        }
        for (int f = 0; f < 4; f++) {
            Check.ask(x, ":s" + f);
            Check.due("sum of " + f, x.answer(f, 0, 0), f % 3 == 0 ? 7920 : 0);
        }
        Check.ask(x, ":n");
        Check.due("how many", x.answer(4, 0, 0), 80);
    }

    /** "over all THINGS that are IN": the first and the last count, gone ones do not. */
    private static void justThoseThatAreIn() {
        StonesAsked x = Check.withKeys(1, 2, 4, 8);
        Check.ask(x, ":s0");
        Check.due("all", x.answer(0, 0, 0), 15);
        x.take(3);
        Check.due("without the last", x.answer(0, 0, 0), 7);
        x.take(0);
        Check.due("without the first", x.answer(0, 0, 0), 6);
        x.put(16, 0, 0, 0);
        Check.due("with a new one", x.answer(0, 0, 0), 22);
    }
}
