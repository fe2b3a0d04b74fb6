import java.util.Arrays;

/**
 * Structures made to asks: a keep of things, asks about them, stones that keep names of things,
 * plans of stones, and what goes with them. DOC.md says what each public call answers.
 */
public final class StonesAsked {
    public static final int BAD = -1, NOT = -2, FULL = -3, STATE = -5, MAYBE = -6, VOID = -2000000000;

    private static final int MOST_THINGS = 80, FIELDS = 4, TOP_VALUE = 99, TOP_SUM = 9999;
    private static final int MOST_ASKS = 10, TAPE_ROOM = 60, TOP_OFTEN = 99;
    private static final int MOST_STONES = 10, TOP_KIND = 7, TRACE_ROOM = 24, NONE = -1;
    private static final int TOP_SIZE = 999, TOP_PUTS = 999, TOP_PLAN = 4, HELD_PRICE = 1999999999;
    private static final int MOST_DAYS = 12, TOP_COST = 999, MOST_CELLS = 60, TOP_WIDTH = 8, MOST_KEYS = 9;
    private static final int MOST_WALKS = 4, SHELVES = 6, ROW_ROOM = 60, NO_ROW = -1, BYTES = 0, TOP_SORT = 4;
    /** What Long.MIN_VALUE is; its name is not among what LANGUAGE.md lists. */
    private static final long NO_ELEMENT = -9223372036854775808L;
    private static final int NOTHING_THERE = -11, OTHER_KIND = -12, NO_PLACE = -13, SIZE_BELOW = -14;

    private final Things kept = new Things();
    private final Told told = new Told();
    private final int[] tape = new int[TAPE_ROOM];
    private int tapeSize;
    private final Ask[] asks = new Ask[MOST_ASKS];
    /** What the tape is read into: it is used again until it has become an ask. */
    private Ask blank = new Ask();
    private int askCount;
    private final Stone[] stones = new Stone[MOST_STONES];
    private int stoneCount;
    private int throughLooks;
    private Stone latestActor;
    private final int[][] prices = new int[MOST_ASKS][MOST_STONES];
    private final int[] putPrices = new int[MOST_STONES];
    private final int[] chosen = new int[MOST_STONES];
    private final Stone[] shelfStones = new Stone[SHELVES];
    private final int[] shelfSorts = new int[SHELVES];
    private final int[] shelfSizes = new int[SHELVES];
    private final long[][] shelfCells = new long[SHELVES][ROW_ROOM];

    public StonesAsked() {
        Arrays.fill(shelfSorts, NO_ROW);
    }

    // ---- the keep

    public int put(int f0, int f1, int f2, int f3) {
        if (!isValue(f0) || !isValue(f1) || !isValue(f2) || !isValue(f3)) {
            return BAD;
        }
        if (kept.wouldBreak(0, f0) || kept.wouldBreak(1, f1)
                || kept.wouldBreak(2, f2) || kept.wouldBreak(3, f3)) {
            return STATE;
        }
        if (kept.count >= MOST_THINGS) {
            return FULL;
        }
        int thing = kept.add(f0, f1, f2, f3);
        for (int i = 0; i < stoneCount; i++) {
            stones[i].enter(thing);
        }
        return thing;
    }

    public int take(int thing) {
        if (!kept.has(thing)) {
            return BAD;
        }
        if (!kept.isIn(thing)) {
            return NOT;
        }
        kept.remove(thing);
        for (int i = 0; i < stoneCount; i++) {
            stones[i].leave(thing);
        }
        return 1;
    }

    public int of(int thing, int f) {
        if (!kept.has(thing) || !isWithin(f, 0, FIELDS)) {
            return BAD;
        }
        if (f == FIELDS) {
            return kept.isIn(thing) ? 1 : 0;
        }
        return kept.value(thing, f);
    }

    public int unlike(int f, int is) {
        if (!isField(f) || !isWithin(is, 0, 1)) {
            return BAD;
        }
        if (is == 1 && kept.hasLikes(f)) {
            return STATE;
        }
        int was = kept.unlikes[f];
        kept.unlikes[f] = is;
        return was;
    }

    public int most(int f, int v) {
        if (!isField(f) || !isWithin(v, NONE, TOP_SUM)) {
            return VOID;
        }
        if (v != NONE && kept.sum(f) > v) {
            return NOT;
        }
        int was = kept.mosts[f];
        kept.mosts[f] = v;
        return was;
    }

    // ---- asks

    public int feed(int n, int v) {
        if (!isWithin(n, 1, 4)) {
            return BAD;
        }
        if (tapeSize + n > TAPE_ROOM) {
            return FULL;
        }
        for (int i = 0; i < n; i++) {
            tape[tapeSize] = (v >>> (8 * i)) & 255;
            tapeSize++;
        }
        return tapeSize;
    }

    public int ask() {
        if (askCount >= MOST_ASKS) {
            return FULL;
        }
        int fault = blank.readFrom(tape, tapeSize);
        tapeSize = 0;
        if (fault != NONE) {
            return -100 - fault;
        }
        asks[askCount] = blank;
        blank = new Ask();
        askCount++;
        return askCount - 1;
    }

    public int often(int ask, int v) {
        Ask asked = askAt(ask);
        if (asked == null || !isWithin(v, 0, TOP_OFTEN)) {
            return BAD;
        }
        int was = asked.often;
        asked.often = v;
        return was;
    }

    public int answer(int ask, int a, int b) {
        Ask asked = askAt(ask);
        if (asked == null || !isValue(a) || !isValue(b)) {
            return VOID;
        }
        return plainAnswer(asked, a, b);
    }

    private int plainAnswer(Ask asked, int a, int b) {
        asked.begin(a, b);
        for (int thing = 0; thing < kept.count; thing++) {
            if (kept.isIn(thing)) {
                asked.see(kept, thing);
            }
        }
        return asked.result();
    }

    // ---- stones

    public int stone(int kind, int key) {
        if (!isWithin(kind, 0, TOP_KIND) || !isField(key)) {
            return BAD;
        }
        if (stoneCount >= MOST_STONES) {
            return FULL;
        }
        Stone fresh = newStone(kind, stoneCount, key);
        for (int thing = 0; thing < kept.count; thing++) {
            if (kept.isIn(thing)) {
                fresh.enter(thing);
            }
        }
        stones[stoneCount] = fresh;
        stoneCount++;
        return stoneCount - 1;
    }

    private Stone newStone(int kind, int number, int key) {
        switch (kind) {
            case 1: return new Row(kept, number, key);
            case 2: return new Sorted(kept, number, key);
            case 3: return new Heap(kept, number, key);
            case 4: return new Table(kept, number, key, MOST_THINGS);
            case 5: return new Tree(kept, number, key);
            case 6: return new Bits(kept, number, key);
            case 7: return new Sums(kept, number, key);
            default: return new Stone(kept, number, key);
        }
    }

    public int ofStone(int stone, int what) {
        Stone body = stoneAt(stone);
        if (body == null) {
            return BAD;
        }
        switch (what) {
            case 0: return body.kind();
            case 1: return body.key;
            case 2: return body.howMany();
            case 3: return body.allLooks;
            case 4: return body.latestLooks;
            default: return BAD;
        }
    }

    public int nameAt(int stone, int i) {
        Stone body = stoneAt(stone);
        return body == null ? BAD : body.nameIn(i);
    }

    public int through(int stone, int ask, int a, int b) {
        Stone body = stoneAt(stone);
        Ask asked = askAt(ask);
        if (body == null || asked == null || !isValue(a) || !isValue(b)) {
            return VOID;
        }
        int answer = answerThrough(body, asked, a, b);
        if (answer != NOT) {
            throughLooks = body.counted;
        }
        return answer;
    }

    private static int answerThrough(Stone body, Ask asked, int a, int b) {
        asked.begin(a, b);
        body.counted = 0;
        return body.run(asked);
    }

    public int looks() {
        return throughLooks;
    }

    public int firstUnlike(int ask, int a, int b) {
        Ask asked = askAt(ask);
        if (asked == null || !isValue(a) || !isValue(b)) {
            return BAD;
        }
        int due = plainAnswer(asked, a, b);
        for (int i = 0; i < stoneCount; i++) {
            int answer = answerThrough(stones[i], asked, a, b);
            if (answer != NOT && answer != MAYBE && answer != due) {
                return i;
            }
        }
        return NOT;
    }

    // ---- plans

    public int price(int stone, int ask, int n) {
        Stone body = stoneAt(stone);
        Ask asked = askAt(ask);
        if (body == null || asked == null || !isSize(n)) {
            return BAD;
        }
        return body.priceFor(asked, n);
    }

    public int putPrice(int stone, int n) {
        Stone body = stoneAt(stone);
        return body == null || !isSize(n) ? BAD : body.priceOfPut(n);
    }

    public int plan(int stones, int n, int puts) {
        if (!isPlan(stones) || !isSize(n) || !isWithin(puts, 0, TOP_PUTS)) {
            return BAD;
        }
        learnPrices(n);
        return planned(stones, puts);
    }

    public int leastPlan(int n, int puts, int k) {
        if (!isSize(n) || !isWithin(puts, 0, TOP_PUTS) || !isWithin(k, 1, TOP_PLAN)) {
            return BAD;
        }
        learnPrices(n);
        int best = NOT;
        int bestPrice = 0;
        for (int bits = 0; bits < 1 << stoneCount; bits++) {
            int size = Integer.bitCount(bits);
            int price = size > k ? NOT : planned(bits, puts);
            if (price == NOT) {
                continue;
            }
            if (best == NOT || price < bestPrice
                    || price == bestPrice && size < Integer.bitCount(best)) {
                best = bits;
                bestPrice = price;
            }
        }
        return best;
    }

    public int goesThrough(int stones, int ask, int n) {
        if (!isPlan(stones) || askAt(ask) == null || !isSize(n)) {
            return BAD;
        }
        learnPrices(n);
        return cheapest(ask, choose(stones));
    }

    /** Prices are learnt once for a call: a search for the least plan asks for each many times. */
    private void learnPrices(int n) {
        for (int i = 0; i < stoneCount; i++) {
            putPrices[i] = stones[i].priceOfPut(n);
            for (int ask = 0; ask < askCount; ask++) {
                prices[ask][i] = stones[i].priceFor(asks[ask], n);
            }
        }
    }

    private int planned(int bits, int puts) {
        int size = choose(bits);
        long price = 0;
        for (int ask = 0; ask < askCount; ask++) {
            if (asks[ask].often == 0) {
                continue;
            }
            int stone = cheapest(ask, size);
            if (stone == NOT) {
                return NOT;
            }
            price += (long) asks[ask].often * prices[ask][stone];
        }
        for (int i = 0; i < size; i++) {
            price += (long) puts * putPrices[chosen[i]];
        }
        return (int) Math.min(price, (long) HELD_PRICE);
    }

    /** The stones of a plan come to stand in chosen, by numbers: how many. */
    private int choose(int bits) {
        int size = 0;
        for (int i = 0; i < stoneCount; i++) {
            if ((bits >> i & 1) == 1) {
                chosen[size] = i;
                size++;
            }
        }
        return size;
    }

    private int cheapest(int ask, int size) {
        int best = NOT;
        for (int i = 0; i < size; i++) {
            int price = prices[ask][chosen[i]];
            if (price != NOT && (best == NOT || price < prices[ask][best])) {
                best = chosen[i];
            }
        }
        return best;
    }

    public int drift(int first, int second) {
        if (!isWithin(first, 0, TOP_COST) || !isWithin(second, 0, TOP_COST)) {
            return BAD;
        }
        return told.dayCount >= MOST_DAYS ? FULL : told.addDay(first, second);
    }

    public int drifted(int c, int what) {
        if (!isWithin(c, 0, TOP_COST) || told.dayCount == 0) {
            return BAD;
        }
        switch (what) {
            case 0: return told.leastDrift(c);
            case 1: return told.ruledDrift(c, false);
            case 2: return told.ruledDrift(c, true);
            default: return BAD;
        }
    }

    public int undrift() {
        int was = told.dayCount;
        told.dayCount = 0;
        return was;
    }

    // ---- lines, looks, walks

    public int cell(int cell) {
        if (!isValue(cell)) {
            return BAD;
        }
        return told.cellCount >= MOST_CELLS ? FULL : told.addCell(cell);
    }

    public int misses(int w, int f, int what) {
        if (!isWithin(w, 1, TOP_WIDTH) || !isWithin(f, 1, TOP_WIDTH) || told.cellCount == 0) {
            return BAD;
        }
        switch (what) {
            case 0: return told.missesByUsed(w, f);
            case 1: return told.missesByComing(w, f);
            default: return BAD;
        }
    }

    public int uncell() {
        int was = told.cellCount;
        told.cellCount = 0;
        return was;
    }

    public int key(int often, int ahead) {
        if (!isWithin(often, 0, TOP_OFTEN) || !isWithin(ahead, 0, TOP_OFTEN)) {
            return BAD;
        }
        return told.keyCount >= MOST_KEYS ? FULL : told.addKey(often, ahead);
    }

    public int leastLooks(int behind) {
        if (!isWithin(behind, 0, TOP_OFTEN) || told.keyCount == 0) {
            return BAD;
        }
        return told.fewestLooks(behind);
    }

    public int root() {
        return told.latestRoot;
    }

    public int walk(int frozen) {
        if (!isWithin(frozen, 0, 1)) {
            return BAD;
        }
        return kept.walkCount >= MOST_WALKS ? FULL : kept.addWalk(frozen == 1);
    }

    public int next(int walk) {
        return isWithin(walk, 0, kept.walkCount - 1) ? kept.walkOn(walk) : BAD;
    }

    // ---- acts, shelves

    public int act(int stone, int act, int x) {
        latestActor = isWithin(act, 0, 3) ? stoneAt(stone) : null;
        if (latestActor == null) {
            return 0;
        }
        latestActor.bodyCount = 0;
        switch (act) {
            case 0: return latestActor.finds(x);
            case 1: return latestActor.mends(x);
            case 2: return latestActor.keeps(x);
            default: return latestActor.tells(x);
        }
    }

    public int trace(int i) {
        if (latestActor == null) {
            return BAD;
        }
        int size = Math.min(latestActor.bodyCount, TRACE_ROOM);
        return isWithin(i, 0, size - 1) ? latestActor.bodies[i] : BAD;
    }

    private int bodiesRun() {
        return latestActor == null ? 0 : latestActor.bodyCount;
    }

    public int keep(int shelf, int stone) {
        if (!isShelf(shelf) || stone != NONE && stoneAt(stone) == null) {
            return BAD;
        }
        shelfStones[shelf] = stoneAt(stone);
        shelfSorts[shelf] = NO_ROW;
        return 1;
    }

    public int row(int shelf, int sort, int n) {
        if (!isShelf(shelf) || !isWithin(sort, 0, TOP_SORT) || n > ROW_ROOM) {
            return BAD;
        }
        if (n < 0) {
            return SIZE_BELOW;
        }
        shelfStones[shelf] = null;
        shelfSorts[shelf] = sort;
        shelfSizes[shelf] = n;
        Arrays.fill(shelfCells[shelf], 0L);
        return 1;
    }

    public int set(int shelf, int i, long v) {
        int refusal = refusalAt(shelf, i);
        if (refusal != 0) {
            return refusal;
        }
        shelfCells[shelf][i] = cut(shelfSorts[shelf], v);
        return 1;
    }

    public long element(int shelf, int i) {
        return refusalAt(shelf, i) != 0 ? NO_ELEMENT : shelfCells[shelf][i];
    }

    public int shift(int shelf, int i, int other, int j, int n) {
        if (!isShelf(shelf) || !isShelf(other)) {
            return BAD;
        }
        if (holdsNothing(shelf) || holdsNothing(other)) {
            return NOTHING_THERE;
        }
        if (shelfSorts[shelf] == NO_ROW || shelfSorts[shelf] != shelfSorts[other]) {
            return OTHER_KIND;
        }
        if (!hasPlaces(shelf, i, n) || !hasPlaces(other, j, n)) {
            return NO_PLACE;
        }
        System.arraycopy(shelfCells[shelf], i, shelfCells[other], j, n);
        return n;
    }

    public int taken(int shelf, int k) {
        if (!isShelf(shelf) || !isWithin(k, 0, TOP_KIND)) {
            return BAD;
        }
        if (holdsNothing(shelf)) {
            return NOTHING_THERE;
        }
        Stone body = shelfStones[shelf];
        return body == null || !isOfKind(body, k) ? OTHER_KIND : body.kind();
    }

    public int things(int shelf, int i, int n) {
        if (!isShelf(shelf) || !isWithin(n, 1, 15)) {
            return BAD;
        }
        if (holdsNothing(shelf)) {
            return 0;
        }
        if (shelfSorts[shelf] != BYTES) {
            return OTHER_KIND;
        }
        long[] row = shelfCells[shelf];
        int done = 0;
        while (done < n && hasPlaces(shelf, i, FIELDS * (done + 1))) {
            int at = i + FIELDS * done;
            if (put((int) row[at], (int) row[at + 1], (int) row[at + 2], (int) row[at + 3]) < 0) {
                break;
            }
            done++;
        }
        return done;
    }

    public int count(int what) {
        switch (what) {
            case 0: return kept.count;
            case 1: return kept.countIn();
            case 2: return askCount;
            case 3: return stoneCount;
            case 4: return tapeSize;
            case 5: return kept.walkCount;
            case 6: return bodiesRun();
            default: return BAD;
        }
    }

    private int refusalAt(int shelf, int i) {
        if (!isShelf(shelf)) {
            return BAD;
        }
        if (holdsNothing(shelf)) {
            return NOTHING_THERE;
        }
        if (shelfSorts[shelf] == NO_ROW) {
            return OTHER_KIND;
        }
        return hasPlaces(shelf, i, 1) ? 0 : NO_PLACE;
    }

    private boolean holdsNothing(int shelf) {
        return shelfStones[shelf] == null && shelfSorts[shelf] == NO_ROW;
    }

    /** Nothing is added to i before it is known to be small: it may be any int. */
    private boolean hasPlaces(int shelf, int i, int n) {
        return i >= 0 && n >= 0 && n <= shelfSizes[shelf] && i <= shelfSizes[shelf] - n;
    }

    private static long cut(int sort, long v) {
        switch (sort) {
            case 0: return (byte) v;
            case 1: return (short) v;
            case 2: return (int) v;
            case 3: return v;
            default: return v != 0 ? 1 : 0;
        }
    }

    private static boolean isOfKind(Stone body, int kind) {
        switch (kind) {
            case 0: return true;
            case 1: return body instanceof Row;
            case 2: return body instanceof Sorted;
            case 3: return body instanceof Heap;
            case 4: return body instanceof Table;
            case 5: return body instanceof Tree;
            case 6: return body instanceof Bits;
            default: return body instanceof Sums;
        }
    }

    private Ask askAt(int ask) {
        return isWithin(ask, 0, askCount - 1) ? asks[ask] : null;
    }

    private Stone stoneAt(int stone) {
        return isWithin(stone, 0, stoneCount - 1) ? stones[stone] : null;
    }

    private boolean isPlan(int bits) {
        return isWithin(bits, 0, (1 << stoneCount) - 1);
    }

    private static boolean isShelf(int shelf) {
        return isWithin(shelf, 0, SHELVES - 1);
    }

    private static boolean isSize(int n) {
        return isWithin(n, 1, TOP_SIZE);
    }

    private static boolean isField(int f) {
        return isWithin(f, 0, FIELDS - 1);
    }

    private static boolean isValue(int v) {
        return isWithin(v, 0, TOP_VALUE);
    }

    private static boolean isWithin(int v, int low, int high) {
        return v >= low && v <= high;
    }

    /** The keep: things by numbers, the laws told of it, and the walks over it. */
    private static final class Things {
        private static final int STILL_IN = 1000;

        final int[] unlikes = new int[FIELDS];
        final int[] mosts = new int[FIELDS];
        int count;
        int walkCount;
        /** A row for each field: a stone holds on to the row of its key. */
        final int[][] values = new int[FIELDS][MOST_THINGS];
        /** With which taking a thing went: a frozen walk knows by it what was in when it began. */
        private final int[] wentWith = new int[MOST_THINGS];
        private int takings;
        private final int[] walkPlaces = new int[MOST_WALKS];
        private final int[] walkEnds = new int[MOST_WALKS];
        private final int[] walkTakings = new int[MOST_WALKS];

        Things() {
            Arrays.fill(mosts, NONE);
        }

        boolean has(int thing) {
            return isWithin(thing, 0, count - 1);
        }

        boolean isIn(int thing) {
            return wentWith[thing] == STILL_IN;
        }

        int value(int thing, int field) {
            return values[field][thing];
        }

        int countIn() {
            return count - takings;
        }

        int sum(int field) {
            int sum = 0;
            for (int thing = 0; thing < count; thing++) {
                sum += isIn(thing) ? value(thing, field) : 0;
            }
            return sum;
        }

        boolean hasLikes(int field) {
            for (int thing = 0; thing < count; thing++) {
                if (isIn(thing) && hasAhead(thing, field, value(thing, field))) {
                    return true;
                }
            }
            return false;
        }

        /** Whether one that is in, with a number below end, has the value. */
        private boolean hasAhead(int end, int field, int value) {
            for (int thing = 0; thing < end; thing++) {
                if (isIn(thing) && value(thing, field) == value) {
                    return true;
                }
            }
            return false;
        }

        boolean wouldBreak(int field, int value) {
            if (unlikes[field] == 1 && hasAhead(count, field, value)) {
                return true;
            }
            return mosts[field] != NONE && sum(field) + value > mosts[field];
        }

        int add(int f0, int f1, int f2, int f3) {
            values[0][count] = f0;
            values[1][count] = f1;
            values[2][count] = f2;
            values[3][count] = f3;
            wentWith[count] = STILL_IN;
            count++;
            return count - 1;
        }

        void remove(int thing) {
            wentWith[thing] = takings;
            takings++;
        }

        /** A walk that is not frozen passes by whatever has gone, with any taking, and has no end. */
        int addWalk(boolean frozen) {
            walkPlaces[walkCount] = 0;
            walkEnds[walkCount] = frozen ? count : MOST_THINGS;
            walkTakings[walkCount] = frozen ? takings : STILL_IN;
            walkCount++;
            return walkCount - 1;
        }

        int walkOn(int walk) {
            int end = Math.min(count, walkEnds[walk]);
            for (int thing = walkPlaces[walk]; thing < end; thing++) {
                if (wentWith[thing] >= walkTakings[walk]) {
                    walkPlaces[walk] = thing + 1;
                    return thing;
                }
            }
            walkPlaces[walk] = end;
            return NONE;
        }
    }

    /** An ask: what it says, and, while it is run, what has been seen for it. */
    private static final class Ask {
        /** With 60 bytes 14 conditions fit into an ask, and one more into a faulty tape. */
        private static final int MOST_CONDITIONS = 15;
        private static final int LETTER_A = 100, LETTER_B = 101;
        private static final int AT_START = 0, AT_FIELD = 1, AT_SIGN = 2, AT_VALUE = 3, AT_DIGIT = 4;
        private static final int BEHIND_VALUE = 5, AT_OUTCOME = 6, AT_OUT_FIELD = 7, AT_END = 8;

        int often = 1;
        private final int[] fields = new int[MOST_CONDITIONS];
        private final int[] signs = new int[MOST_CONDITIONS];
        private final int[] values = new int[MOST_CONDITIONS];
        private int conditions;
        private int outcome;
        private int outField;
        private int a;
        private int b;
        private int seen;
        private int sum;
        private int best;
        private int bestValue;

        /** The FAULT, or NONE if the tape is an ask. Conditions of an earlier tape, with a FAULT, are forgotten. */
        int readFrom(int[] tape, int size) {
            conditions = 0;
            int state = AT_START;
            for (int i = 0; i < size; i++) {
                state = stateAfter(state, tape[i]);
                if (state == NONE) {
                    return i;
                }
            }
            return state == AT_END ? NONE : size;
        }

        private int stateAfter(int state, int sign) {
            switch (state) {
                case AT_START: return sign == ':' ? AT_OUTCOME : readField(sign);
                case AT_FIELD: return readField(sign);
                case AT_SIGN: return readSign(sign);
                case AT_VALUE: return readValue(sign);
                case AT_DIGIT: return readDigit(sign);
                case BEHIND_VALUE: return sign == '&' ? AT_FIELD : sign == ':' ? AT_OUTCOME : NONE;
                case AT_OUTCOME: return readOutcome(sign);
                case AT_OUT_FIELD: return readOutField(sign);
                default: return NONE;
            }
        }

        private int readField(int sign) {
            if (!isWithin(sign, '0', '3') || conditions >= MOST_CONDITIONS) {
                return NONE;
            }
            fields[conditions] = sign - '0';
            return AT_SIGN;
        }

        private int readSign(int sign) {
            if (sign != '=' && sign != '<' && sign != '>') {
                return NONE;
            }
            signs[conditions] = sign;
            return AT_VALUE;
        }

        private int readValue(int sign) {
            if (isWithin(sign, '0', '9')) {
                values[conditions] = (sign - '0') * 10;
                return AT_DIGIT;
            }
            if (sign != 'a' && sign != 'b') {
                return NONE;
            }
            values[conditions] = sign == 'a' ? LETTER_A : LETTER_B;
            conditions++;
            return BEHIND_VALUE;
        }

        private int readDigit(int sign) {
            if (!isWithin(sign, '0', '9')) {
                return NONE;
            }
            values[conditions] += sign - '0';
            conditions++;
            return BEHIND_VALUE;
        }

        private int readOutcome(int sign) {
            outcome = sign;
            if (sign == 'n') {
                return AT_END;
            }
            return sign == 'm' || sign == 'x' || sign == 's' ? AT_OUT_FIELD : NONE;
        }

        private int readOutField(int sign) {
            if (!isWithin(sign, '0', '3')) {
                return NONE;
            }
            outField = sign - '0';
            return AT_END;
        }

        void begin(int a, int b) {
            this.a = a;
            this.b = b;
            seen = 0;
            sum = 0;
            best = NONE;
            bestValue = 0;
        }

        void see(Things things, int thing) {
            for (int c = 0; c < conditions; c++) {
                if (!holds(c, things.value(thing, fields[c]))) {
                    return;
                }
            }
            int value = things.value(thing, outField);
            seen++;
            sum += value;
            if (best == NONE || isBetter(value, thing)) {
                best = thing;
                bestValue = value;
            }
        }

        private boolean holds(int c, int value) {
            switch (signs[c]) {
                case '=': return value == wanted(c);
                case '<': return value < wanted(c);
                default: return value > wanted(c);
            }
        }

        /** Stones show things in orders of their own, so that of like ones the number decides. */
        private boolean isBetter(int value, int thing) {
            if (value == bestValue) {
                return thing < best;
            }
            return outcome == 'm' ? value < bestValue : value > bestValue;
        }

        int result() {
            switch (outcome) {
                case 'n': return seen;
                case 's': return sum;
                default: return best;
            }
        }

        private int wanted(int c) {
            return values[c] == LETTER_A ? a : values[c] == LETTER_B ? b : values[c];
        }

        /** LEAST of the values that the conditions about a key let in. */
        int lowEnd(int key) {
            int low = 0;
            for (int c = 0; c < conditions; c++) {
                if (fields[c] == key && signs[c] != '<') {
                    low = Math.max(low, signs[c] == '>' ? wanted(c) + 1 : wanted(c));
                }
            }
            return low;
        }

        /** MOST of the values that the conditions about a key let in. */
        int highEnd(int key) {
            int high = TOP_VALUE;
            for (int c = 0; c < conditions; c++) {
                if (fields[c] == key && signs[c] != '>') {
                    high = Math.min(high, signs[c] == '<' ? wanted(c) - 1 : wanted(c));
                }
            }
            return high;
        }

        boolean isAbout(int key) {
            for (int c = 0; c < conditions; c++) {
                if (fields[c] == key) {
                    return true;
                }
            }
            return false;
        }

        boolean hasEqual(int key) {
            return equalAt(key) != NONE;
        }

        /** The value of the first = about a key; for asks that have one. */
        int firstEqual(int key) {
            int c = equalAt(key);
            return c == NONE ? 0 : wanted(c);
        }

        private int equalAt(int key) {
            for (int c = 0; c < conditions; c++) {
                if (fields[c] == key && signs[c] == '=') {
                    return c;
                }
            }
            return NONE;
        }

        boolean isLeastOfAll(int key) {
            return conditions == 0 && outcome == 'm' && outField == key;
        }

        boolean isCount() {
            return outcome == 'n';
        }

        boolean isCountOfOneValue(int key) {
            return isCount() && conditions == 1 && hasEqual(key);
        }

        /** Whether sums kept by a key suffice. */
        boolean isFromSums(int key) {
            for (int c = 0; c < conditions; c++) {
                if (fields[c] != key) {
                    return false;
                }
            }
            return isCount() || outcome == 's' && outField == key;
        }
    }

    /**
     * KIND 0, which keeps nothing; the kinds below it say what they do otherwise.
     * What overrides bears no mark: annotations are not among what LANGUAGE.md lists.
     */
    private static class Stone {
        final Things things;
        final int number;
        final int key;
        /** KEY of each thing, by its number. */
        final int[] keys;
        final int[] bodies = new int[TRACE_ROOM];
        int bodyCount;
        int allLooks;
        int latestLooks;
        /** LOOKS of the putting, taking or finding that is under way. */
        int counted;

        Stone(Things things, int number, int key) {
            this.things = things;
            this.number = number;
            this.key = key;
            this.keys = things.values[key];
        }

        final void enter(int thing) {
            counted = 0;
            putName(thing);
            latestLooks = counted;
            allLooks += counted;
        }

        final void leave(int thing) {
            counted = 0;
            takeName(thing);
            latestLooks = counted;
            allLooks += counted;
        }

        int kind() {
            return 0;
        }

        void putName(int thing) {
        }

        void takeName(int thing) {
        }

        int howMany() {
            return 0;
        }

        int nameIn(int place) {
            return BAD;
        }

        /** The answer of an ask that has begun, from what is seen here; NOT: it can't. */
        int run(Ask ask) {
            return NOT;
        }

        int priceFor(Ask ask, int n) {
            return NOT;
        }

        int priceOfPut(int n) {
            return 0;
        }

        /** By KEY, of like ones by number. */
        final boolean comesAhead(int thing, int value, int other) {
            return keys[thing] < value || keys[thing] == value && thing < other;
        }

        /** L: the least number with 2 to the L above n. */
        static int levels(int n) {
            int levels = 0;
            while (levels < 30 && 1 << levels <= n) {
                levels++;
            }
            return levels;
        }

        static int orderedPrice(Ask ask, int key, int n) {
            int levels = levels(n);
            if (ask.hasEqual(key)) {
                return levels + 2;
            }
            return ask.isAbout(key) ? levels + n / 4 + 1 : n + levels;
        }

        final void led(int body) {
            if (bodyCount < TRACE_ROOM) {
                bodies[bodyCount] = body;
            }
            bodyCount++;
        }

        /** The body of FINDS and, below, that of TELLS: no kind but this one is given them directly. */
        int finds(int x) {
            led(1);
            return x + number;
        }

        int mends(int x) {
            led(10);
            return finds(x) * 2;
        }

        int keeps(int x) {
            led(11);
            return x ^ number;
        }

        int tells(int x) {
            led(2);
            return mends(x) - keeps(1);
        }
    }

    private static class Row extends Stone {
        final int[] names = new int[MOST_THINGS];
        int size;

        Row(Things things, int number, int key) {
            super(things, number, key);
        }

        int kind() {
            return 1;
        }

        void putName(int thing) {
            counted++;
            insertAt(size, thing);
        }

        void takeName(int thing) {
            int place = placeOf(thing);
            counted += place + 1;
            removeAt(place);
        }

        /** The size, if it is not there. */
        final int placeOf(int thing) {
            int place = 0;
            while (place < size && names[place] != thing) {
                place++;
            }
            return place;
        }

        final void insertAt(int place, int thing) {
            if (size >= MOST_THINGS || place > size) {
                return;
            }
            System.arraycopy(names, place, names, place + 1, size - place);
            names[place] = thing;
            size++;
        }

        final void removeAt(int place) {
            if (place >= size) {
                return;
            }
            size--;
            System.arraycopy(names, place + 1, names, place, size - place);
        }

        int howMany() {
            return size;
        }

        int nameIn(int place) {
            return isWithin(place, 0, size - 1) ? names[place] : BAD;
        }

        int run(Ask ask) {
            for (int i = 0; i < size; i++) {
                counted++;
                ask.see(things, names[i]);
            }
            return ask.result();
        }

        int priceFor(Ask ask, int n) {
            return n;
        }

        int priceOfPut(int n) {
            return 1;
        }

        int finds(int x) {
            led(20);
            return super.finds(x) + key;
        }
    }

    private static class Sorted extends Row {
        Sorted(Things things, int number, int key) {
            super(things, number, key);
        }

        int kind() {
            return 2;
        }

        /** Found by halves, each LOOK counted. */
        final int placeFor(int value, int thing) {
            int low = 0;
            int high = size;
            while (low < high) {
                int middle = (low + high) / 2;
                counted++;
                if (comesAhead(names[middle], value, thing)) {
                    low = middle + 1;
                } else {
                    high = middle;
                }
            }
            return low;
        }

        void putName(int thing) {
            int place = placeFor(keys[thing], thing);
            counted += size - place;
            insertAt(place, thing);
        }

        void takeName(int thing) {
            int place = placeFor(keys[thing], thing);
            counted += size - 1 - place;
            removeAt(place);
        }

        int run(Ask ask) {
            int most = ask.highEnd(key);
            for (int i = placeFor(ask.lowEnd(key), NONE); i < size; i++) {
                counted++;
                if (keys[names[i]] > most) {
                    break;
                }
                ask.see(things, names[i]);
            }
            return ask.result();
        }

        int priceFor(Ask ask, int n) {
            return orderedPrice(ask, key, n);
        }

        int priceOfPut(int n) {
            return levels(n) + n / 2;
        }

        int mends(int x) {
            led(30);
            return super.mends(x) - 1;
        }
    }

    private static final class Sums extends Sorted {
        /** At i the sum of KEY over the first i names. */
        private final int[] sums = new int[MOST_THINGS + 1];

        Sums(Things things, int number, int key) {
            super(things, number, key);
        }

        int kind() {
            return 7;
        }

        void putName(int thing) {
            super.putName(thing);
            sumUp();
        }

        void takeName(int thing) {
            super.takeName(thing);
            sumUp();
        }

        private void sumUp() {
            for (int i = 0; i < size; i++) {
                sums[i + 1] = sums[i] + keys[names[i]];
            }
        }

        int run(Ask ask) {
            if (!ask.isFromSums(key)) {
                return super.run(ask);
            }
            int from = placeFor(ask.lowEnd(key), NONE);
            int to = placeFor(ask.highEnd(key) + 1, NONE);
            if (to <= from) {
                return 0;
            }
            return ask.isCount() ? to - from : sums[to] - sums[from];
        }

        int priceFor(Ask ask, int n) {
            return ask.isFromSums(key) ? 2 * levels(n) : super.priceFor(ask, n);
        }

        int mends(int x) {
            led(80);
            return super.mends(x) + super.finds(x);
        }
    }

    private static final class Heap extends Row {
        Heap(Things things, int number, int key) {
            super(things, number, key);
        }

        int kind() {
            return 3;
        }

        void putName(int thing) {
            insertAt(size, thing);
            rise(size - 1);
        }

        void takeName(int thing) {
            int place = placeOf(thing);
            if (place >= size) {
                return;
            }
            counted += place + 1;
            size--;
            if (place == size) {
                return;
            }
            names[place] = names[size];
            if (rise(place) == place) {
                sink(place);
            }
        }

        /** Where it comes to stand. */
        private int rise(int place) {
            int at = place;
            while (at > 0) {
                int above = (at - 1) / 2;
                counted++;
                if (!isLess(at, above)) {
                    break;
                }
                change(at, above);
                at = above;
            }
            return at;
        }

        private void sink(int place) {
            int at = place;
            for (int step = 0; step < size && 2 * at + 1 < size; step++) {
                int below = lesserBelow(at);
                counted++;
                if (!isLess(below, at)) {
                    break;
                }
                change(at, below);
                at = below;
            }
        }

        private int lesserBelow(int at) {
            int first = 2 * at + 1;
            if (first + 1 >= size) {
                return first;
            }
            counted++;
            return isLess(first + 1, first) ? first + 1 : first;
        }

        private boolean isLess(int place, int other) {
            return comesAhead(names[place], keys[names[other]], names[other]);
        }

        private void change(int place, int other) {
            int name = names[place];
            names[place] = names[other];
            names[other] = name;
        }

        int run(Ask ask) {
            if (!ask.isLeastOfAll(key)) {
                return super.run(ask);
            }
            if (size > 0) {
                counted++;
                ask.see(things, names[0]);
            }
            return ask.result();
        }

        int priceFor(Ask ask, int n) {
            return ask.isLeastOfAll(key) ? 1 : n;
        }

        int priceOfPut(int n) {
            return levels(n);
        }

        int keeps(int x) {
            led(40);
            return super.keeps(x) + finds(2);
        }
    }

    /** Its buckets stand one behind the other in one row. */
    private static class Table extends Stone {
        private static final int BUCKETS = 8;

        private final int[] names;
        private int size;

        /** The kind below keeps no names and needs no room for them. */
        Table(Things things, int number, int key, int room) {
            super(things, number, key);
            names = new int[Math.max(room, 0)];
        }

        int kind() {
            return 4;
        }

        private int bucketOf(int thing) {
            return keys[thing] % BUCKETS;
        }

        /** Where the first name of a bucket stands, or would stand. */
        private int startOf(int bucket) {
            int place = 0;
            while (place < size && bucketOf(names[place]) < bucket) {
                place++;
            }
            return place;
        }

        void putName(int thing) {
            counted++;
            if (size >= names.length) {
                return;
            }
            int place = startOf(bucketOf(thing) + 1);
            System.arraycopy(names, place, names, place + 1, size - place);
            names[place] = thing;
            size++;
        }

        void takeName(int thing) {
            int place = startOf(bucketOf(thing));
            while (place < size && names[place] != thing) {
                counted++;
                place++;
            }
            if (place >= size) {
                return;
            }
            counted++;
            size--;
            System.arraycopy(names, place + 1, names, place, size - place);
        }

        int howMany() {
            return size;
        }

        int nameIn(int place) {
            return isWithin(place, 0, size - 1) ? names[place] : BAD;
        }

        int run(Ask ask) {
            boolean one = ask.hasEqual(key);
            int bucket = ask.firstEqual(key) % BUCKETS;
            for (int i = 0; i < size; i++) {
                if (!one || bucketOf(names[i]) == bucket) {
                    counted++;
                    ask.see(things, names[i]);
                }
            }
            return ask.result();
        }

        int priceFor(Ask ask, int n) {
            return ask.hasEqual(key) ? n / BUCKETS + 1 : n;
        }

        int priceOfPut(int n) {
            return 1;
        }

        int finds(int x) {
            led(50);
            return super.finds(x) * 3;
        }
    }

    private static final class Bits extends Table {
        private int bits;

        Bits(Things things, int number, int key) {
            super(things, number, key, 0);
        }

        int kind() {
            return 6;
        }

        private static int bitsOf(int value) {
            return (1 << (value * 7 % 32)) | (1 << (value * 11 % 32));
        }

        void putName(int thing) {
            counted += 2;
            bits |= bitsOf(keys[thing]);
        }

        void takeName(int thing) {
            counted++;
        }

        int howMany() {
            return Integer.bitCount(bits);
        }

        int nameIn(int place) {
            return BAD;
        }

        int run(Ask ask) {
            if (!ask.isCountOfOneValue(key)) {
                return NOT;
            }
            counted += 2;
            int sought = bitsOf(ask.firstEqual(key));
            return (bits & sought) == sought ? MAYBE : 0;
        }

        int priceFor(Ask ask, int n) {
            return ask.isCountOfOneValue(key) ? 2 : NOT;
        }

        int priceOfPut(int n) {
            return 2;
        }

        int finds(int x) {
            led(70);
            return -super.finds(x + 1);
        }

        int keeps(int x) {
            led(71);
            return super.keeps(x) * 2;
        }
    }

    /** A knot is the name that it keeps: no thing is in twice. */
    private static final class Tree extends Stone {
        private final int[] lesser = new int[MOST_THINGS];
        private final int[] greater = new int[MOST_THINGS];
        /** Knots still to be gone to: a tree may be too deep for methods that call themselves. */
        private final int[] waiting = new int[MOST_THINGS];
        private int root = NONE;
        private int size;

        Tree(Things things, int number, int key) {
            super(things, number, key);
        }

        int kind() {
            return 5;
        }

        private int sideFor(int thing, int knot) {
            return comesAhead(thing, keys[knot], knot) ? lesser[knot] : greater[knot];
        }

        /** What stands below a knot (or as the root), where old stood, is fresh now. */
        private void hang(int above, int old, int fresh) {
            if (above == NONE) {
                root = fresh;
            } else if (lesser[above] == old) {
                lesser[above] = fresh;
            } else {
                greater[above] = fresh;
            }
        }

        void putName(int thing) {
            int above = NONE;
            int at = root;
            while (at != NONE && counted < size) {
                counted++;
                above = at;
                at = sideFor(thing, at);
            }
            lesser[thing] = NONE;
            greater[thing] = NONE;
            size++;
            if (above == NONE) {
                root = thing;
            } else if (comesAhead(thing, keys[above], above)) {
                lesser[above] = thing;
            } else {
                greater[above] = thing;
            }
        }

        void takeName(int thing) {
            int above = NONE;
            int at = root;
            while (at != NONE && at != thing && counted < size) {
                counted++;
                above = at;
                at = sideFor(thing, at);
            }
            if (at != thing) {
                return;
            }
            counted++;
            hang(above, thing, heirOf(thing));
            size--;
        }

        /** What comes in a knot's place, with all that is to stand below it. */
        private int heirOf(int knot) {
            if (lesser[knot] == NONE || greater[knot] == NONE) {
                return lesser[knot] == NONE ? greater[knot] : lesser[knot];
            }
            int above = knot;
            int heir = greater[knot];
            counted++;
            for (int step = 0; step < size && lesser[heir] != NONE; step++) {
                above = heir;
                heir = lesser[heir];
                counted++;
            }
            if (above != knot) {
                lesser[above] = greater[heir];
                greater[heir] = greater[knot];
            }
            lesser[heir] = lesser[knot];
            return heir;
        }

        int howMany() {
            return size;
        }

        int nameIn(int place) {
            int left = place;
            int at = root;
            int depth = 0;
            for (int step = 0; step < 2 * size && (at != NONE || depth > 0); step++) {
                if (at != NONE) {
                    waiting[depth] = at;
                    depth++;
                    at = lesser[at];
                    continue;
                }
                depth--;
                if (left == 0) {
                    return waiting[depth];
                }
                left--;
                at = greater[waiting[depth]];
            }
            return BAD;
        }

        int run(Ask ask) {
            int low = ask.lowEnd(key);
            int high = ask.highEnd(key);
            int depth = 0;
            int at = root;
            for (int step = 0; step < size && at != NONE; step++) {
                counted++;
                int value = keys[at];
                if (value >= low && value <= high) {
                    ask.see(things, at);
                }
                if (value <= high && greater[at] != NONE) {
                    waiting[depth] = greater[at];
                    depth++;
                }
                at = value >= low ? lesser[at] : NONE;
                if (at == NONE && depth > 0) {
                    depth--;
                    at = waiting[depth];
                }
            }
            return ask.result();
        }

        int priceFor(Ask ask, int n) {
            return orderedPrice(ask, key, n);
        }

        int priceOfPut(int n) {
            return 2 * levels(n);
        }

        int tells(int x) {
            led(60);
            return super.tells(x) ^ 5;
        }
    }

    /** What is told one by one: days of drift, cells, keys; and what is reckoned from it. */
    private static final class Told {
        int dayCount;
        int cellCount;
        int keyCount;
        int latestRoot = NONE;
        private final int[] firstCosts = new int[MOST_DAYS];
        private final int[] secondCosts = new int[MOST_DAYS];
        private final int[] cells = new int[MOST_CELLS];
        private final int[] held = new int[TOP_WIDTH];
        private final int[] keys = new int[MOST_KEYS];
        private final int[] gaps = new int[MOST_KEYS + 1];
        /** At [i][j] the least looks over the keys from i on, j not among them; at [i][i] always 0. */
        private final int[][] least = new int[MOST_KEYS + 1][MOST_KEYS + 1];

        int addDay(int first, int second) {
            firstCosts[dayCount] = first;
            secondCosts[dayCount] = second;
            dayCount++;
            return dayCount;
        }

        int leastDrift(int c) {
            int first = 0;
            int second = 0;
            for (int day = 0; day < dayCount; day++) {
                int toFirst = day == 0 ? first : Math.min(first, second + c);
                int toSecond = day == 0 ? second : Math.min(second, first + c);
                first = toFirst + firstCosts[day];
                second = toSecond + secondCosts[day];
            }
            return Math.min(first, second);
        }

        /** By the RULE: the sum, or how many changes it makes. */
        int ruledDrift(int c, boolean wantsChanges) {
            boolean onSecond = false;
            int sum = 0;
            int changes = 0;
            int lost = 0;
            for (int day = 0; day < dayCount; day++) {
                if (day > 0 && lost >= c) {
                    onSecond = !onSecond;
                    changes++;
                    sum += c;
                    lost = 0;
                }
                int used = onSecond ? secondCosts[day] : firstCosts[day];
                int other = onSecond ? firstCosts[day] : secondCosts[day];
                sum += used;
                lost = Math.max(lost + used - other, 0);
            }
            return wantsChanges ? changes : sum;
        }

        int addCell(int cell) {
            cells[cellCount] = cell;
            cellCount++;
            return cellCount;
        }

        /** The lines held stand by their use, the latest one first. */
        int missesByUsed(int w, int f) {
            int size = 0;
            int misses = 0;
            for (int i = 0; i < cellCount; i++) {
                int line = cells[i] / w;
                int place = heldAt(line, size);
                if (place == NONE) {
                    misses++;
                    size = Math.min(size + 1, f);
                    place = size - 1;
                }
                System.arraycopy(held, 0, held, 1, place);
                held[0] = line;
            }
            return misses;
        }

        int missesByComing(int w, int f) {
            int size = 0;
            int misses = 0;
            for (int i = 0; i < cellCount; i++) {
                int line = cells[i] / w;
                if (heldAt(line, size) != NONE) {
                    continue;
                }
                misses++;
                if (size < f) {
                    held[size] = line;
                    size++;
                } else {
                    held[latestNeeded(w, size, i + 1)] = line;
                }
            }
            return misses;
        }

        private int heldAt(int line, int size) {
            for (int i = 0; i < size; i++) {
                if (held[i] == line) {
                    return i;
                }
            }
            return NONE;
        }

        private int latestNeeded(int w, int size, int from) {
            int latest = 0;
            int latestUse = NONE;
            for (int i = 0; i < size; i++) {
                int use = nextUse(held[i], w, from);
                if (use > latestUse || use == latestUse && held[i] < held[latest]) {
                    latest = i;
                    latestUse = use;
                }
            }
            return latest;
        }

        private int nextUse(int line, int w, int from) {
            int use = from;
            while (use < cellCount && cells[use] / w != line) {
                use++;
            }
            return use;
        }

        int addKey(int often, int ahead) {
            keys[keyCount] = often;
            gaps[keyCount] = ahead;
            keyCount++;
            return keyCount;
        }

        int fewestLooks(int behind) {
            gaps[keyCount] = behind;
            for (int length = 1; length <= keyCount; length++) {
                for (int from = 0; from + length <= keyCount; from++) {
                    int root = bestRoot(from, from + length);
                    least[from][from + length] = withRoot(from, from + length, root)
                            + soughtIn(from, from + length);
                    latestRoot = root;
                }
            }
            int looks = least[0][keyCount];
            keyCount = 0;
            return looks;
        }

        private int bestRoot(int from, int to) {
            int best = from;
            for (int root = from + 1; root < to; root++) {
                if (withRoot(from, to, root) < withRoot(from, to, best)) {
                    best = root;
                }
            }
            return best;
        }

        private int withRoot(int from, int to, int root) {
            return least[from][root] + least[root + 1][to];
        }

        private int soughtIn(int from, int to) {
            int sought = gaps[from];
            for (int i = from; i < to; i++) {
                sought += keys[i] + gaps[i + 1];
            }
            return sought;
        }
    }
}
