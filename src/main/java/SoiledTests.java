/** Tests that share cells, rows of them, and which of them answer otherwise behind others than alone. */
public final class SoiledTests {
    public static final int NONE = -1, BAD = -2, NO = -3, FULL = -4;

    private static final int CELLS = 6;
    private static final int ALL_CELLS = 63;
    private static final int MOST_TESTS = 8;
    private static final int ALL_TESTS = 255;
    private static final int MASKS = 5;
    private static final int LAST_SEED = 999999;
    private static final int SEEDS_TRIED = 200;
    private static final int MOST_STATES = 5;
    private static final int MOST_BYTES = 150;
    /** The shortest order, a letter and its end, has two bytes. */
    private static final int MOST_ORDERS = 75;

    private final Suite suite = new Suite();
    private final Past past = new Past();
    private final Text text = new Text();
    private final Orders orders = new Orders();
    /** Shuffled rows that are only looked at are laid here, so that no call makes a new one. */
    private final Row spare = new Row();
    private int timesBad;
    private int timesNo;
    private int timesFull;

    public SoiledTests() {
    }

    // ---- what is told in

    public int test(int a, int b, int c, int d, int e) {
        past.mark(suite);
        return settled(suite.addTest(a, b, c, d, e));
    }

    public int cuts() {
        past.mark(suite);
        return settled(suite.cutLast());
    }

    public int lays(int t) {
        past.mark(suite);
        return settled(suite.layTest(t));
    }

    public int wipes() {
        past.mark(suite);
        return settled(suite.wipeRow());
    }

    public int start(int n) {
        past.mark(suite);
        return settled(suite.changeStart(n));
    }

    public int mode(int n) {
        past.mark(suite);
        return settled(suite.changeMode(n));
    }

    public int shuffles(int seed) {
        past.mark(suite);
        return settled(suite.shuffleRow(seed));
    }

    public int trims(int v) {
        past.mark(suite);
        return settled(suite.trimAhead(v));
    }

    // ---- tests

    public int of(int t, int what) {
        if (!suite.hasTest(t) || what < 0 || what > MASKS) {
            return refused(BAD);
        }
        return what == MASKS ? oneIf(suite.passesOn(t, suite.startCells)) : suite.mask(t, what);
    }

    public int soils(int p, int v) {
        if (!areTwoTests(p, v)) {
            return refused(BAD);
        }
        return oneIf(suite.doesSoil(p, v));
    }

    public int cleans(int p, int v) {
        if (!areTwoTests(p, v)) {
            return refused(BAD);
        }
        if (!suite.doesSoil(p, v)) {
            return refused(NO);
        }
        return suite.cleaners(p, v);
    }

    public int flips(int seed) {
        if (!isSeed(seed)) {
            return refused(BAD);
        }
        return flippedBySeed(seed);
    }

    public int seed(int s, int v) {
        if (!isSeed(s) || !suite.hasTest(v)) {
            return refused(BAD);
        }
        for (int k = 0; k < SEEDS_TRIED && s + k <= LAST_SEED; k++) {
            if (isIn(v, flippedBySeed(s + k))) {
                return s + k;
            }
        }
        return NONE;
    }

    // ---- the row

    public int at(int k) {
        if (k < 0) {
            return refused(BAD);
        }
        return suite.row.nth(k);
    }

    public int inRow(int t, int what) {
        if (!suite.hasTest(t) || what < 0 || what > 4) {
            return refused(BAD);
        }
        int place = suite.row.placeOf(t);
        if (place == NONE) {
            return refused(NO);
        }
        int cells = suite.cellsBehind(suite.row.setAhead(place));
        switch (what) {
            case 0:
                return place;
            case 1:
                return oneIf(suite.passesOn(t, cells));
            case 2:
                return oneIf(suite.isFlippedOn(t, cells));
            case 3:
                return suite.wrongCells(t, cells);
            default:
                return suite.cellsAfter(t, cells);
        }
    }

    public int who(int t, int cell) {
        if (!suite.hasTest(t) || cell < 0 || cell >= CELLS) {
            return refused(BAD);
        }
        int place = suite.row.placeOf(t);
        if (place == NONE) {
            return refused(NO);
        }
        return suite.lastToChange(cell, place);
    }

    public int left(int v, int how) {
        if (how < 0 || how > 2) {
            return refused(BAD);
        }
        int ahead = suite.flippingAhead(v);
        if (ahead < 0) {
            return refused(ahead);
        }
        switch (how) {
            case 0:
                return Reduction.least(suite, ahead, v);
            case 1:
                return Reduction.fewest(suite, ahead, v);
            default:
                return Reduction.halves(suite, ahead, v);
        }
    }

    public int count(int what) {
        switch (what) {
            case 0:
                return suite.size;
            case 1:
                return suite.row.size;
            case 2:
                return suite.startCells;
            case 3:
                return suite.modeNow;
            case 4:
                return suite.cellsBehind(ALL_TESTS);
            case 5:
                return Integer.bitCount(suite.passingIn(suite.row));
            case 6:
                return Integer.bitCount(suite.flippedIn(suite.row));
            case 7:
                return suite.soilingPairs();
            default:
                return refused(BAD);
        }
    }

    // ---- texts

    public int type(int c) {
        if (c < 0 || c > 127) {
            return refused(BAD);
        }
        if (text.isFull()) {
            return refused(FULL);
        }
        return text.append(c);
    }

    public int clear() {
        return text.makeEmpty();
    }

    public int does() {
        int fault = orders.read(text);
        if (fault != NONE) {
            return -10 - fault;
        }
        past.mark(suite);
        for (int k = 0; k < orders.size; k++) {
            if (carryOut(k) < 0) {
                past.recall(suite);
                return -1000 - k;
            }
        }
        past.keep();
        return orders.size;
    }

    public int back() {
        if (past.size == 0) {
            return refused(NO);
        }
        return past.stepBack(suite);
    }

    public int told(int what) {
        switch (what) {
            case 0:
                return timesBad;
            case 1:
                return timesNo;
            case 2:
                return timesFull;
            case 3:
                return text.length;
            case 4:
                return past.size;
            default:
                return refused(BAD);
        }
    }

    public long digest() {
        long h = 18056;
        for (int what = 0; what <= 4; what++) {
            h = 31 * h + told(what);
        }
        for (int what = 0; what <= 7; what++) {
            h = 31 * h + count(what);
        }
        for (int t = 0; t < suite.size; t++) {
            for (int what = 0; what <= 5; what++) {
                h = 31 * h + of(t, what);
            }
        }
        for (int k = 0; k < suite.row.size; k++) {
            int t = suite.row.nth(k);
            h = 31 * h + t;
            for (int what = 1; what <= 4; what++) {
                h = 31 * h + inRow(t, what);
            }
        }
        for (int by = 1; by <= 3; by++) {
            h = 31 * h + flips(by);
        }
        return h;
    }

    // ---- what the calls share

    private int refused(int why) {
        if (why == BAD) {
            timesBad++;
        } else if (why == NO) {
            timesNo++;
        } else {
            timesFull++;
        }
        return why;
    }

    /** Ends a call told S whose old state is marked: no such call answers below 0 unless it is refused. */
    private int settled(int answer) {
        if (answer < 0) {
            return refused(answer);
        }
        past.keep();
        return answer;
    }

    private int carryOut(int k) {
        int first = orders.number(k, 0);
        switch (orders.letter(k)) {
            case 't':
                return suite.addTest(first, orders.number(k, 1), orders.number(k, 2),
                        orders.number(k, 3), orders.number(k, 4));
            case 'r':
                return suite.layTest(first);
            case 'w':
                return suite.wipeRow();
            case 's':
                return suite.changeStart(first);
            case 'm':
                return suite.changeMode(first);
            case 'c':
                return suite.cutLast();
            default:
                return BAD;
        }
    }

    private boolean areTwoTests(int p, int v) {
        return suite.hasTest(p) && suite.hasTest(v) && p != v;
    }

    private int flippedBySeed(int seed) {
        spare.layShuffled(suite.size, seed);
        return suite.flippedIn(spare);
    }

    private static boolean isSeed(int n) {
        return n >= 0 && n <= LAST_SEED;
    }

    private static boolean areCells(int n) {
        return n >= 0 && n <= ALL_CELLS;
    }

    private static boolean isIn(int k, int bits) {
        return (bits >> k & 1) != 0;
    }

    private static int oneIf(boolean so) {
        return so ? 1 : 0;
    }

    /** Tests in an order, each once at most. */
    private static final class Row {
        private final int[] tests = new int[MOST_TESTS];
        private int size;

        int nth(int k) {
            return k >= 0 && k < size && k < tests.length ? tests[k] : NONE;
        }

        int placeOf(int t) {
            for (int k = 0; k < size; k++) {
                if (nth(k) == t) {
                    return k;
                }
            }
            return NONE;
        }

        /** The tests ahead of a place, as bits. */
        int setAhead(int place) {
            int set = 0;
            for (int k = 0; k < place && k < size; k++) {
                set |= 1 << nth(k);
            }
            return set;
        }

        void append(int t) {
            if (size >= 0 && size < tests.length) {
                tests[size] = t;
                size++;
            }
        }

        void makeEmpty() {
            size = 0;
        }

        /** Takes out all tests of a set; the others stay in their order. */
        void takeOut(int set) {
            int before = size;
            size = 0;
            for (int k = 0; k < before && k < tests.length; k++) {
                int t = tests[k];
                if (!isIn(t, set)) {
                    append(t);
                }
            }
        }

        void layShuffled(int number, int seed) {
            makeEmpty();
            for (int t = 0; t < number; t++) {
                append(t);
            }
            long x = seed;
            for (int i = size - 1; i >= 1; i--) {
                x = (x * 1103515245L + 12345L) % 2147483648L;
                swap(i, (int) (x / 65536L % (i + 1)));
            }
        }

        private void swap(int i, int j) {
            if (i >= 0 && i < tests.length && j >= 0 && j < tests.length) {
                int t = tests[i];
                tests[i] = tests[j];
                tests[j] = t;
            }
        }

        void copyFrom(Row other) {
            System.arraycopy(other.tests, 0, tests, 0, MOST_TESTS);
            size = other.size;
        }
    }

    /** All that can be gone back to: the tests, THE ROW, START and MODE. What changes it answers below 0 if refused. */
    private static final class Suite {
        private static final int NEEDS_0 = 0, NEEDS_1 = 1, MAKES_0 = 2, MAKES_1 = 3, TURNS = 4;

        private final int[] masks = new int[MOST_TESTS * MASKS];
        private final Row row = new Row();
        private int size;
        private int startCells;
        private int modeNow;

        int addTest(int a, int b, int c, int d, int e) {
            if (!areCells(a) || !areCells(b) || !areCells(c) || !areCells(d) || !areCells(e)) {
                return BAD;
            }
            if ((a & b) != 0 || (c & d) != 0 || (c & e) != 0 || (d & e) != 0) {
                return BAD;
            }
            if (size < 0 || size >= MOST_TESTS) {
                return FULL;
            }
            int first = size * MASKS;
            masks[first + NEEDS_0] = a;
            masks[first + NEEDS_1] = b;
            masks[first + MAKES_0] = c;
            masks[first + MAKES_1] = d;
            masks[first + TURNS] = e;
            size++;
            return size - 1;
        }

        int cutLast() {
            if (size <= 0) {
                return NO;
            }
            size--;
            row.takeOut(1 << size);
            return size;
        }

        int layTest(int t) {
            if (!hasTest(t)) {
                return BAD;
            }
            if (row.placeOf(t) != NONE) {
                return NO;
            }
            row.append(t);
            return row.size;
        }

        int wipeRow() {
            int had = row.size;
            row.makeEmpty();
            return had;
        }

        int changeStart(int n) {
            if (!areCells(n)) {
                return BAD;
            }
            int was = startCells;
            startCells = n;
            return was;
        }

        int changeMode(int n) {
            if (n != 0 && n != 1) {
                return BAD;
            }
            int was = modeNow;
            modeNow = n;
            return was;
        }

        int shuffleRow(int seed) {
            if (!isSeed(seed)) {
                return BAD;
            }
            row.layShuffled(size, seed);
            return row.size;
        }

        int trimAhead(int v) {
            int ahead = flippingAhead(v);
            if (ahead < 0) {
                return ahead;
            }
            int going = ahead & ~Reduction.least(this, ahead, v);
            row.takeOut(going);
            return Integer.bitCount(going);
        }

        boolean hasTest(int t) {
            return t >= 0 && t < size;
        }

        /** What the test was told: a to e are 0 to 4. */
        int mask(int t, int which) {
            int i = t * MASKS + which;
            return i >= 0 && i < masks.length ? masks[i] : 0;
        }

        /** The cells that are not as t needs them, when it is done on these. */
        int wrongCells(int t, int cells) {
            if (t < 0 || t >= MOST_TESTS) {
                return 0;
            }
            int first = t * MASKS;
            return cells & masks[first + NEEDS_0] | ~cells & masks[first + NEEDS_1];
        }

        boolean passesOn(int t, int cells) {
            return wrongCells(t, cells) == 0;
        }

        boolean isFlippedOn(int t, int cells) {
            return passesOn(t, cells) != passesOn(t, startCells);
        }

        int cellsAfter(int t, int cells) {
            if (t < 0 || t >= MOST_TESTS || modeNow == 0 && wrongCells(t, cells) != 0) {
                return cells;
            }
            int first = t * MASKS;
            return (cells & ~masks[first + MAKES_0] | masks[first + MAKES_1]) ^ masks[first + TURNS];
        }

        /** The cells when, of THE ROW, the tests of a set alone have been done. */
        int cellsBehind(int set) {
            int cells = startCells;
            for (int k = 0; k < row.size; k++) {
                int t = row.nth(k);
                if (isIn(t, set)) {
                    cells = cellsAfter(t, cells);
                }
            }
            return cells;
        }

        boolean isFlippedBehind(int set, int v) {
            return isFlippedOn(v, cellsBehind(set));
        }

        /** The tests ahead of v in THE ROW, as bits, if v is flipped there; else why it is refused. */
        int flippingAhead(int v) {
            if (!hasTest(v)) {
                return BAD;
            }
            int place = row.placeOf(v);
            if (place == NONE) {
                return NO;
            }
            int ahead = row.setAhead(place);
            return isFlippedBehind(ahead, v) ? ahead : NO;
        }

        int passingIn(Row some) {
            int set = 0;
            int cells = startCells;
            for (int k = 0; k < some.size; k++) {
                int t = some.nth(k);
                set |= oneIf(passesOn(t, cells)) << t;
                cells = cellsAfter(t, cells);
            }
            return set;
        }

        int passingAlone() {
            int set = 0;
            for (int t = 0; t < size; t++) {
                set |= oneIf(passesOn(t, startCells)) << t;
            }
            return set;
        }

        int flippedIn(Row some) {
            return passingIn(some) ^ passingAlone() & some.setAhead(some.size);
        }

        /** Of the tests of THE ROW ahead of a place, the last one by which the cell became another. */
        int lastToChange(int cell, int place) {
            int last = NONE;
            int cells = startCells;
            for (int k = 0; k < place && k < row.size; k++) {
                int t = row.nth(k);
                int then = cellsAfter(t, cells);
                if (isIn(cell, cells ^ then)) {
                    last = t;
                }
                cells = then;
            }
            return last;
        }

        boolean doesSoil(int p, int v) {
            return p != v && isFlippedOn(v, cellsAfter(p, startCells));
        }

        int soilingPairs() {
            int pairs = 0;
            for (int p = 0; p < size; p++) {
                for (int v = 0; v < size; v++) {
                    pairs += oneIf(doesSoil(p, v));
                }
            }
            return pairs;
        }

        int cleaners(int p, int v) {
            int set = 0;
            int soiled = cellsAfter(p, startCells);
            for (int c = 0; c < size; c++) {
                if (c != p && c != v && !isFlippedOn(v, cellsAfter(c, soiled))) {
                    set |= 1 << c;
                }
            }
            return set;
        }

        void copyFrom(Suite other) {
            System.arraycopy(other.masks, 0, masks, 0, MOST_TESTS * MASKS);
            row.copyFrom(other.row);
            size = other.size;
            startCells = other.startCells;
            modeNow = other.modeNow;
        }
    }

    /** What is left of the tests ahead of v, sets as bits, so that v is still flipped behind them. */
    private static final class Reduction {
        static int least(Suite suite, int ahead, int v) {
            int left = ahead;
            boolean went = true;
            // each round but the last one takes out a test
            for (int round = 0; round <= MOST_TESTS && went; round++) {
                went = false;
                for (int k = 0; k < suite.row.size; k++) {
                    int t = suite.row.nth(k);
                    int others = left & ~(1 << t);
                    if (isIn(t, left) && suite.isFlippedBehind(others, v)) {
                        left = others;
                        went = true;
                    }
                }
            }
            return left;
        }

        static int fewest(Suite suite, int ahead, int v) {
            int best = ahead;
            // going down, the least of like ones is the last one met
            for (int set = ahead; set > 0; set--) {
                boolean isOfAhead = (set & ~ahead) == 0;
                if (isOfAhead && Integer.bitCount(set) <= Integer.bitCount(best) && suite.isFlippedBehind(set, v)) {
                    best = set;
                }
            }
            return best;
        }

        static int halves(Suite suite, int ahead, int v) {
            int left = ahead;
            // each round but the last one takes out a test
            for (int round = 0; round < MOST_TESTS && Integer.bitCount(left) >= 2; round++) {
                int first = firstHalf(suite.row, left);
                int others = left & ~first;
                if (suite.isFlippedBehind(first, v)) {
                    left = first;
                } else if (suite.isFlippedBehind(others, v)) {
                    left = others;
                } else {
                    break;
                }
            }
            return left;
        }

        private static int firstHalf(Row row, int set) {
            int half = 0;
            int wanted = Integer.bitCount(set) / 2;
            for (int k = 0; k < row.size && wanted > 0; k++) {
                int t = row.nth(k);
                if (isIn(t, set)) {
                    half |= 1 << t;
                    wanted--;
                }
            }
            return half;
        }
    }

    /** The states to go back to, in a ring with one slot more, where the state ahead of a call is marked. */
    private static final class Past {
        private static final int SLOTS = MOST_STATES + 1;

        private final Suite[] slots = new Suite[SLOTS];
        private int size;
        private int marked;

        Past() {
            for (int i = 0; i < slots.length; i++) {
                slots[i] = new Suite();
            }
        }

        private Suite markedSlot() {
            return marked >= 0 && marked < slots.length ? slots[marked] : null;
        }

        void mark(Suite now) {
            Suite slot = markedSlot();
            if (slot != null) {
                slot.copyFrom(now);
            }
        }

        void recall(Suite now) {
            Suite slot = markedSlot();
            if (slot != null) {
                now.copyFrom(slot);
            }
        }

        /** What is marked becomes the newest state; the oldest one's slot is the next to be marked. */
        void keep() {
            marked = (marked + 1) % SLOTS;
            size = Math.min(size + 1, MOST_STATES);
        }

        int stepBack(Suite now) {
            if (size > 0) {
                size--;
                marked = (marked + SLOTS - 1) % SLOTS;
                recall(now);
            }
            return size;
        }
    }

    /** THE TEXT's bytes. */
    private static final class Text {
        private final int[] bytes = new int[MOST_BYTES];
        private int length;

        boolean isFull() {
            return length >= MOST_BYTES;
        }

        int append(int c) {
            if (length >= 0 && length < bytes.length) {
                bytes[length] = c;
                length++;
            }
            return length;
        }

        int makeEmpty() {
            int had = length;
            length = 0;
            return had;
        }

        int nth(int i) {
            return i >= 0 && i < length && i < bytes.length ? bytes[i] : NONE;
        }
    }

    /** Reads THE TEXT whole, byte by byte, into orders: a letter and up to five numbers each. */
    private static final class Orders {
        private final int[] letters = new int[MOST_ORDERS];
        private final int[] numbers = new int[MOST_ORDERS * MASKS];
        private int size;
        /** How many numbers the open order takes; NONE between orders. */
        private int wanted;
        private int begun;
        /** How many figures the open number has; 0 outside of a number. */
        private int figures;

        /** The fault's place, or NONE. */
        int read(Text text) {
            size = 0;
            wanted = NONE;
            for (int i = 0; i < text.length; i++) {
                if (!takes(text.nth(i))) {
                    return i;
                }
            }
            return wanted != NONE || size == 0 ? text.length : NONE;
        }

        private boolean takes(int c) {
            if (c == ' ') {
                figures = 0;
                return true;
            }
            if (wanted == NONE) {
                return opensOrder(c);
            }
            return c == ';' ? endsOrder() : takesFigure(c);
        }

        private boolean opensOrder(int c) {
            wanted = numbersOf(c);
            if (wanted == NONE || size < 0 || size >= letters.length) {
                return false;
            }
            letters[size] = c;
            begun = 0;
            figures = 0;
            return true;
        }

        private boolean endsOrder() {
            if (begun < wanted) {
                return false;
            }
            size++;
            wanted = NONE;
            return true;
        }

        private boolean takesFigure(int c) {
            if (c < '0' || c > '9' || figures == 2 || figures == 0 && begun == wanted) {
                return false;
            }
            if (figures == 0) {
                begun++;
                setNumber(c - '0');
            } else {
                setNumber(10 * number(size, begun - 1) + c - '0');
            }
            figures++;
            return true;
        }

        private void setNumber(int n) {
            int i = size * MASKS + begun - 1;
            if (i >= 0 && i < numbers.length) {
                numbers[i] = n;
            }
        }

        private static int numbersOf(int letter) {
            switch (letter) {
                case 't':
                    return MASKS;
                case 'r':
                case 's':
                case 'm':
                    return 1;
                case 'w':
                case 'c':
                    return 0;
                default:
                    return NONE;
            }
        }

        int letter(int k) {
            return k >= 0 && k < letters.length ? letters[k] : NONE;
        }

        int number(int k, int i) {
            int place = k * MASKS + i;
            return place >= 0 && place < numbers.length ? numbers[place] : 0;
        }
    }
}
