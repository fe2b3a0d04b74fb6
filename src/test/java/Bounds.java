/** Where a number may lie, and that a refused call changes nothing. */
final class Bounds {
    /** Makes a new object, always with the same calls. */
    interface Maker {
        StonesAsked make();
    }

    interface Call {
        long on(StonesAsked x);
    }

    interface NumberCall {
        long on(StonesAsked x, int v);
    }

    private Bounds() {
    }

    /** The least and the greatest number are taken; what lies beyond is refused, and changes nothing. */
    static void of(String call, Maker world, int low, int high, long refusal, NumberCall f) {
        Check.holds(call + " takes " + low, f.on(world.make(), low) != refusal);
        Check.holds(call + " takes " + high, f.on(world.make(), high) != refusal);
        beyond(call, world, low, high, refusal, f);
    }

    /** As of(), where low and high would be answered the same by themselves. */
    static void beyond(String call, Maker world, int low, int high, long refusal, NumberCall f) {
        below(call, world, low, refusal, f);
        above(call, world, high, refusal, f);
    }

    static void below(String call, Maker world, int low, long refusal, NumberCall f) {
        for (int v : new int[] {low - 1, low - 256, low - 65536, Integer.MIN_VALUE}) {
            refused(call + " with " + v, world, refusal, x -> f.on(x, v));
        }
    }

    static void above(String call, Maker world, int high, long refusal, NumberCall f) {
        for (int v : new int[] {high + 1, high + 256, high + 65536, Integer.MAX_VALUE}) {
            refused(call + " with " + v, world, refusal, x -> f.on(x, v));
        }
    }

    static void refused(String call, Maker world, long refusal, Call f) {
        StonesAsked x = world.make();
        Check.due(call, f.on(x), refusal);
        alike(call, x, world.make());
    }

    /** Both look the same; what looks otherwise is told by its first line. */
    static void alike(String call, StonesAsked x, StonesAsked y) {
        String[] got = Sight.of(x).split("\n");
        String[] want = Sight.of(y).split("\n");
        int same = 0;
        while (same < got.length && same < want.length && got[same].equals(want[same])) {
            same++;
        }
        boolean is = same == got.length && same == want.length;
        Check.holds(call + " changes nothing" + (is ? "" : ", but " + line(got, same) + " was "
                + line(want, same)), is);
    }

    private static String line(String[] lines, int i) {
        return i < lines.length ? lines[i] : "no line";
    }
}
