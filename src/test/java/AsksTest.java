/** Promises 7 to 10: the tape and asks. */
public final class AsksTest {
    public static void main(String[] args) {
        feed();
        forms();
        faults();
        tapeAndFull();
        often();
        answers();
        edges();
        Check.end();
    }

    private static void feed() {
        StonesAsked x = new StonesAsked();
        Check.due("feed 0", x.feed(0, 1), -1);
        Check.due("feed 5", x.feed(5, 1), -1);
        Check.due("feed -1", x.feed(-1, 1), -1);
        Check.due("lowest first, what is above is left out", x.feed(2, 0x7A7A6E3A), 2);
        Check.due("':n' it is", x.ask(), 0);
        for (int i = 1; i <= 14; i++) {
            Check.due("feed", x.feed(4, 0), 4 * i);
        }
        Check.due("feed", x.feed(3, -1), 59);
        Check.due("two do not fit", x.feed(2, 0), -3);
        Check.due("BAD stands ahead of FULL", x.feed(7, 0), -1);
        Check.due("one fits", x.feed(1, 0), 60);
        Check.due("none fits", x.feed(1, 0), -3);
        Check.due("count", x.count(4), 60);
    }

    private static void forms() {
        String[] good = {":n", ":m0", ":x3", ":s2", "0=a:n", "3<b:m1", "2>07:x0", "1=00:s3",
            "0=a&1<b&2>99:n", "0=a&0=a&0=a&0=a&0=a&0=a&0=a&0=a&0=a&0=a&0=a&0=a&0=a&0=a:n"};
        StonesAsked x = new StonesAsked();
        for (int i = 0; i < good.length; i++) {
            Check.due(good[i], Check.ask(x, good[i]), i);
        }
        Check.due("asks", x.count(2), good.length);
    }

    private static void fault(String text, int place) {
        StonesAsked x = Check.withKeys(9, 9, 9);
        Check.due(text, Check.ask(x, text), -100 - place);
        Check.due("the tape is empty behind " + text, x.count(4), 0);
        Check.due("no ask from " + text, x.count(2), 0);
        Check.due("what comes next is free of " + text, Check.ask(x, ":n"), 0);
        Check.due("free of its conditions, too", x.answer(0, 5, 5), 3);
        Check.due("and of its O", Check.ask(x, "0=a:s0"), 1);
        Check.due("just its own condition", x.answer(1, 9, 5), 27);
    }

    private static void faults() {
        fault("", 0);
        fault("4", 0);
        fault("/", 0);
        fault("n", 0);
        fault("a=0", 0);
        fault(" :n", 0);
        fault("&0=a:n", 0);
        fault("0", 1);
        fault("0:", 1);
        fault("00", 1);
        fault("0=", 2);
        fault("0==", 2);
        fault("0=c", 2);
        fault("0=:n", 2);
        fault("0=/5:n", 2);
        fault("0=1", 3);
        fault("0=1a:n", 3);
        fault("0=1::n", 3);
        fault("0=12", 4);
        fault("0=123:n", 4);
        fault("0=a", 3);
        fault("0=ab:n", 3);
        fault("0=a&", 4);
        fault("0=a&:n", 4);
        fault("0=a&4=a:n", 4);
        fault("0=a:", 4);
        fault("0=a:z", 4);
        fault("0=a:0", 4);
        fault(":", 1);
        fault("::", 1);
        fault(":N", 1);
        fault(":m", 2);
        fault(":x4", 2);
        fault(":s/", 2);
        fault(":sn", 2);
        fault(":n0", 2);
        fault(":m00", 3);
        fault(":n ", 2);
        fault("0=a&0=a&0=a&0=a&0=a&0=a&0=a&0=a&0=a&0=a&0=a&0=a&0=a&0=a&0=a&", 60);
        fault("0=a&0=a&0=a&0=a&0=a&0=a&0=a&0=a&0=a&0=a&0=a&0=a&0=a&0=a&0=12", 60);
        fault("0=a&0=a&0=a&0=a&0=a&0=a&0=a&0=a&0=a&0=a&0=a&0=a&0=a&0=a&0=a:", 60);
        fault(":\u00EE", 1);
    }

    private static void tapeAndFull() {
        StonesAsked x = new StonesAsked();
        for (int i = 0; i < 10; i++) {
            Check.due("ask", Check.ask(x, ":n"), i);
        }
        Check.due("FULL, a fault or not", Check.ask(x, "zz"), -3);
        Check.due("the tape stays", x.count(4), 2);
        Check.due("FULL with nothing more", x.ask(), -3);
        Check.due("the tape goes on", x.feed(1, 0), 3);
    }

    private static void often() {
        StonesAsked x = new StonesAsked();
        Check.due("no ask", x.often(0, 1), -1);
        Check.ask(x, ":n");
        Check.due("1 at first", x.often(0, 99), 1);
        Check.due("too much", x.often(0, 100), -1);
        Check.due("too little", x.often(0, -1), -1);
        Check.due("no ask", x.often(1, 5), -1);
        Check.due("no ask", x.often(-1, 5), -1);
        Check.due("what it was", x.often(0, 0), 99);
        Check.due("what it was", x.often(0, 7), 0);
    }

    private static StonesAsked kept() {
        StonesAsked x = new StonesAsked();
        x.put(10, 50, 3, 0);
        x.put(20, 40, 3, 0);
        x.put(30, 30, 3, 0);
        x.put(20, 20, 4, 0);
        x.put(10, 99, 4, 0);
        x.put(99, 0, 5, 0);
        x.take(2);
        return x;
    }

    private static void answer(String text, int a, int b, int want) {
        StonesAsked x = kept();
        Check.ask(x, text);
        Check.due("answer of " + text, x.answer(0, a, b), want);
    }

    private static void answers() {
        answer(":n", 0, 0, 5);
        answer(":s0", 0, 0, 159);
        answer(":m0", 0, 0, 0);
        answer(":x0", 0, 0, 5);
        answer(":m2", 0, 0, 0);
        answer(":x2", 0, 0, 5);
        answer(":x1", 0, 0, 4);
        answer("2=04:m1", 0, 0, 3);
        answer("2=04:x1", 0, 0, 4);
        answer("0=a:n", 20, 0, 2);
        answer("0=b:n", 20, 10, 2);
        answer("0<a:n", 20, 0, 2);
        answer("0>a:n", 20, 0, 1);
        answer("0>a&0<b:s1", 9, 21, 209);
        answer("0=20:x3", 0, 0, 1);
        answer("0=a&0=b:n", 10, 20, 0);
        answer("0=a&0=b:n", 10, 10, 2);
        answer("0=30:n", 0, 0, 0);
        answer("0=30:m0", 0, 0, -1);
        answer("0=30:x0", 0, 0, -1);
        answer("0=30:s0", 0, 0, 0);
        answer("0>99:n", 0, 0, 0);
        answer("0<00:n", 0, 0, 0);
        answer("0=99:m0", 0, 0, 5);
        answer("1=00:s0", 0, 0, 99);
    }

    private static void edges() {
        StonesAsked x = kept();
        Check.ask(x, ":n");
        Check.due("a below", x.answer(0, -1, 0), -2000000000);
        Check.due("a above", x.answer(0, 100, 0), -2000000000);
        Check.due("b below", x.answer(0, 0, -1), -2000000000);
        Check.due("b above", x.answer(0, 0, 100), -2000000000);
        Check.due("no ask", x.answer(1, 0, 0), -2000000000);
        Check.due("no ask", x.answer(-1, 0, 0), -2000000000);
        Check.due("edges", x.answer(0, 99, 99), 5);
        StonesAsked none = new StonesAsked();
        Check.ask(none, ":m0");
        Check.ask(none, ":s0");
        Check.due("least of none", none.answer(0, 0, 0), -1);
        Check.due("sum of none", none.answer(1, 0, 0), 0);
    }
}
