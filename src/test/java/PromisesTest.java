/** For each promise of the document: ordinary inputs, the edges that it names, and wrong inputs. */
public final class PromisesTest {
    private static final int NONE = -1, BAD = -2, NO = -3, FULL = -4;
    private static int wrong = 0;
    private static int promise = 0;
    private static int calls = 0;

    private static void due(long want, long got) {
        calls++;
        if (got != want) {
            wrong++;
            StackTraceElement at = new Throwable().getStackTrace()[1];
            System.out.println("promise " + promise + ", line " + at.getLineNumber() + ": answered " + got + ", due is " + want);
        }
    }

    private static void types(SoiledTests x, String text) {
        for (int i = 0; i < text.length(); i++) {
            x.type(text.charAt(i));
        }
    }

    /** A new object that does the text; what it answers is due. */
    private static SoiledTests doing(long want, String text) {
        SoiledTests x = new SoiledTests();
        types(x, text);
        int got = x.does();
        if (got != want) {
            wrong++;
            System.out.println("promise " + promise + ": does() of \"" + text + "\" answered " + got + ", due is " + want);
        }
        calls++;
        return x;
    }

    private static SoiledTests withTests(int[]... tests) {
        SoiledTests x = new SoiledTests();
        for (int[] t : tests) {
            x.test(t[0], t[1], t[2], t[3], t[4]);
        }
        return x;
    }

    private static int[] t(int a, int b, int c, int d, int e) {
        return new int[] {a, b, c, d, e};
    }

    /** 0 makes cell 0 1; 1 needs cell 0 to be 0; 2 makes cell 0 0; 3 needs and turns cell 1; 4 turns cells 0 and 1. */
    private static SoiledTests five() {
        return withTests(t(0, 0, 0, 1, 0), t(1, 0, 0, 0, 0), t(0, 0, 1, 0, 0), t(0, 2, 0, 0, 2), t(0, 0, 0, 0, 3));
    }

    private static void laysAll(SoiledTests x, int... tests) {
        for (int t : tests) {
            x.lays(t);
        }
    }

    private static void dueRow(SoiledTests x, int... tests) {
        for (int k = 0; k < tests.length; k++) {
            due(tests[k], x.at(k));
        }
        due(NONE, x.at(tests.length));
        due(tests.length, x.count(1));
    }

    private static void promise1() {
        SoiledTests x = new SoiledTests();
        for (int what = 0; what <= 7; what++) {
            due(0, x.count(what));
        }
        for (int what = 0; what <= 4; what++) {
            due(0, x.told(what));
        }
        dueRow(x);
        due(-1, SoiledTests.NONE);
        due(-2, SoiledTests.BAD);
        due(-3, SoiledTests.NO);
        due(-4, SoiledTests.FULL);
        SoiledTests other = new SoiledTests();
        x.test(0, 0, 0, 0, 0);
        due(0, other.count(0));
    }

    private static void promise2() {
        SoiledTests x = new SoiledTests();
        due(0, x.test(63, 0, 63, 0, 0));
        due(1, x.test(0, 63, 0, 63, 0));
        due(2, x.test(21, 42, 3, 12, 48));
        due(3, x.test(1, 2, 1, 2, 4));
        due(4, x.told(4));
        int[][] bad = {t(-1, 0, 0, 0, 0), t(0, -1, 0, 0, 0), t(0, 0, -1, 0, 0), t(0, 0, 0, -1, 0), t(0, 0, 0, 0, -1),
            t(64, 0, 0, 0, 0), t(0, 64, 0, 0, 0), t(0, 0, 64, 0, 0), t(0, 0, 0, 64, 0), t(0, 0, 0, 0, 64),
            t(32, 32, 0, 0, 0), t(0, 0, 33, 1, 0), t(0, 0, 33, 0, 32), t(0, 0, 0, 6, 4),
            t(Integer.MIN_VALUE, 0, 0, 0, 0), t(0, 0, 0, 0, Integer.MAX_VALUE)};
        for (int[] b : bad) {
            due(BAD, x.test(b[0], b[1], b[2], b[3], b[4]));
        }
        due(bad.length, x.told(0));
        due(4, x.count(0));
        for (int k = 4; k < 8; k++) {
            due(k, x.test(0, 0, 0, 0, 63));
        }
        due(FULL, x.test(0, 0, 0, 0, 0));
        due(BAD, x.test(1, 1, 0, 0, 0));
        due(1, x.told(2));
        due(bad.length + 1, x.told(0));
        due(8, x.count(0));
        due(7, x.cuts());
        due(7, x.test(9, 6, 5, 8, 2));
        for (int k = 0; k < 5; k++) {
            due(new int[] {9, 6, 5, 8, 2}[k], x.of(7, k));
        }
        due(4, x.back());
        due(7, x.count(0));
        due(3, x.back());
        due(8, x.count(0));
        due(63, x.of(7, 4));
    }

    private static void promise3() {
        SoiledTests x = five();
        laysAll(x, 0, 4, 1, 3);
        due(4, x.cuts());
        dueRow(x, 0, 1, 3);
        due(3, x.cuts());
        dueRow(x, 0, 1);
        due(2, x.cuts());
        dueRow(x, 0, 1);
        due(1, x.cuts());
        due(0, x.cuts());
        dueRow(x);
        due(5, x.told(4));
        due(NO, x.cuts());
        due(1, x.told(1));
        due(5, x.told(4));
        due(4, x.back());
        due(1, x.count(0));
    }

    private static void promise4() {
        SoiledTests x = five();
        due(1, x.lays(3));
        due(2, x.lays(0));
        due(3, x.lays(4));
        dueRow(x, 3, 0, 4);
        due(NO, x.lays(0));
        due(NO, x.lays(3));
        due(BAD, x.lays(5));
        due(BAD, x.lays(-1));
        due(BAD, x.lays(Integer.MAX_VALUE));
        dueRow(x, 3, 0, 4);
        due(3, x.told(0));
        due(2, x.told(1));
        due(5, x.told(4));
        x.back();
        dueRow(x, 3, 0);
    }

    private static void promise5() {
        SoiledTests x = five();
        due(0, x.wipes());
        laysAll(x, 2, 1);
        due(2, x.wipes());
        dueRow(x);
        due(5, x.count(0));
        x.back();
        dueRow(x, 2, 1);
        SoiledTests y = new SoiledTests();
        due(0, y.wipes());
        due(1, y.told(4));
    }

    private static void promise6() {
        SoiledTests x = withTests(t(32, 1, 0, 0, 0));
        due(0, x.of(0, 5));
        due(0, x.start(1));
        due(1, x.of(0, 5));
        due(1, x.start(63));
        due(0, x.of(0, 5));
        due(63, x.start(63));
        due(63, x.count(2));
        due(BAD, x.start(64));
        due(BAD, x.start(-1));
        due(63, x.count(2));
        due(4, x.told(4));
        due(2, x.told(0));
        x.back();
        due(63, x.count(2));
        x.back();
        due(1, x.count(2));
        due(1, x.start(0));
    }

    private static void promise7() {
        SoiledTests x = withTests(t(0, 1, 0, 2, 0));
        x.lays(0);
        due(0, x.count(4));
        due(0, x.mode(1));
        due(2, x.count(4));
        due(0, x.count(5));
        due(1, x.mode(1));
        due(1, x.count(3));
        due(1, x.mode(0));
        due(0, x.count(4));
        due(BAD, x.mode(2));
        due(BAD, x.mode(-1));
        due(5, x.told(4));
        due(2, x.told(0));
        x.back();
        due(1, x.count(3));
    }

    private static void promise8() {
        SoiledTests x = new SoiledTests();
        due(0, x.shuffles(7));
        due(1, x.told(4));
        x.test(0, 0, 0, 0, 0);
        due(1, x.shuffles(7));
        dueRow(x, 0);
        for (int k = 1; k < 8; k++) {
            x.test(0, 0, 0, 0, 0);
        }
        due(8, x.shuffles(1));
        dueRow(x, 1, 7, 2, 5, 0, 3, 4, 6);
        due(8, x.shuffles(0));
        dueRow(x, shuffled(8, 0));
        due(8, x.shuffles(999999));
        dueRow(x, shuffled(8, 999999));
        due(BAD, x.shuffles(-1));
        due(BAD, x.shuffles(1000000));
        dueRow(x, shuffled(8, 999999));
        x.back();
        dueRow(x, shuffled(8, 0));
        x.cuts();
        due(7, x.shuffles(123456));
        dueRow(x, shuffled(7, 123456));
    }

    private static int[] shuffled(int n, int seed) {
        int[] row = new int[n];
        for (int i = 0; i < n; i++) {
            row[i] = i;
        }
        java.math.BigInteger x = java.math.BigInteger.valueOf(seed);
        for (int i = n - 1; i >= 1; i--) {
            x = x.multiply(java.math.BigInteger.valueOf(1103515245L)).add(java.math.BigInteger.valueOf(12345L))
                .mod(java.math.BigInteger.valueOf(2147483648L));
            int j = x.divide(java.math.BigInteger.valueOf(65536L)).mod(java.math.BigInteger.valueOf(i + 1)).intValue();
            int held = row[i];
            row[i] = row[j];
            row[j] = held;
        }
        return row;
    }

    private static void promise9() {
        SoiledTests x = five();
        laysAll(x, 0, 2, 4, 1, 3);
        due(BAD, x.trims(5));
        due(BAD, x.trims(-1));
        due(NO, x.trims(0));
        dueRow(x, 0, 2, 4, 1, 3);
        due(2, x.trims(1));
        dueRow(x, 4, 1, 3);
        due(0, x.trims(1));
        dueRow(x, 4, 1, 3);
        due(5, x.told(4));
        due(4, x.back());
        dueRow(x, 4, 1, 3);
        due(3, x.back());
        dueRow(x, 0, 2, 4, 1, 3);
        x.wipes();
        due(NO, x.trims(1));
        due(2, x.told(0));
        due(2, x.told(1));
        due(4, x.told(4));
    }

    private static void promise10() {
        SoiledTests x = withTests(t(1, 2, 4, 8, 16), t(0, 0, 0, 0, 0));
        for (int what = 0; what < 5; what++) {
            due(1 << what, x.of(0, what));
            due(0, x.of(1, what));
        }
        due(0, x.of(0, 5));
        due(1, x.of(1, 5));
        x.start(2);
        due(1, x.of(0, 5));
        x.start(3);
        due(0, x.of(0, 5));
        due(BAD, x.of(0, 6));
        due(BAD, x.of(0, -1));
        due(BAD, x.of(2, 0));
        due(BAD, x.of(-1, 0));
        due(BAD, x.of(Integer.MIN_VALUE, Integer.MAX_VALUE));
        due(5, x.told(0));
        due(4, x.told(4));
    }

    private static void promise11() {
        SoiledTests x = five();
        due(1, x.soils(0, 1));
        due(0, x.soils(1, 0));
        due(0, x.soils(2, 1));
        due(1, x.soils(4, 3));
        due(0, x.soils(0, 3));
        due(BAD, x.soils(1, 1));
        due(BAD, x.soils(0, 5));
        due(BAD, x.soils(5, 0));
        due(BAD, x.soils(-1, 0));
        due(BAD, x.soils(0, -1));
        due(5, x.told(0));
        // a soiler that fails soils only if MODE is 1
        SoiledTests y = withTests(t(0, 1, 0, 2, 0), t(2, 0, 0, 0, 0));
        due(0, y.soils(0, 1));
        y.mode(1);
        due(1, y.soils(0, 1));
        y.start(2);
        due(0, y.soils(0, 1));
    }

    private static void promise12() {
        SoiledTests x = five();
        due((1 << 2) | (1 << 4), x.cleans(0, 1));
        due(1 << 2, x.cleans(4, 1));
        due(0, x.cleans(4, 3));
        due(NO, x.cleans(2, 1));
        due(NO, x.cleans(1, 0));
        due(BAD, x.cleans(1, 1));
        due(BAD, x.cleans(5, 1));
        due(BAD, x.cleans(0, 5));
        due(BAD, x.cleans(-1, 1));
        due(BAD, x.cleans(0, -1));
        due(5, x.told(0));
        due(2, x.told(1));
        // p turns the cell, so p behind itself would clean, but all must be unlike
        SoiledTests y = withTests(t(0, 0, 0, 0, 1), t(1, 0, 1, 0, 0));
        due(0, y.cleans(0, 1));
        SoiledTests z = withTests(t(0, 0, 1, 0, 0), t(1, 0, 0, 0, 0), t(0, 0, 0, 1, 0), t(0, 0, 0, 0, 1));
        due(1 | 8, z.cleans(2, 1));
    }

    private static void promise13() {
        SoiledTests x = new SoiledTests();
        due(0, x.flips(0));
        x = withTests(t(0, 0, 0, 1, 0), t(1, 0, 0, 0, 0));
        int behind = 0;
        for (int seed = 0; seed < 20; seed++) {
            boolean soiled = shuffled(2, seed)[0] == 0;
            due(soiled ? 2 : 0, x.flips(seed));
            behind += soiled ? 1 : 0;
        }
        due(1, behind > 0 && behind < 20 ? 1 : 0);
        due(shuffled(2, 999999)[0] == 0 ? 2 : 0, x.flips(999999));
        due(BAD, x.flips(-1));
        due(BAD, x.flips(1000000));
        due(2, x.told(0));
        due(2, x.told(4));
        dueRow(x);
    }

    private static void promise14() {
        SoiledTests x = withTests(t(0, 0, 0, 1, 0), t(1, 0, 0, 0, 0));
        for (int s : new int[] {0, 1, 17, 500000}) {
            int first = s;
            while (shuffled(2, first)[0] != 0) {
                first++;
            }
            due(first, x.seed(s, 1));
        }
        // the last SEED of all is tried, too, whichever of the two lies first by it
        SoiledTests other = withTests(t(1, 0, 0, 0, 0), t(0, 0, 0, 1, 0));
        due(999999, shuffled(2, 999999)[0] == 0 ? x.seed(999999, 1) : other.seed(999999, 0));
        due(NONE, shuffled(2, 999999)[0] == 0 ? other.seed(999999, 0) : x.seed(999999, 1));
        due(NONE, x.seed(0, 0));
        due(NONE, x.seed(999999, 0));
        due(shuffled(2, 999999)[0] == 0 ? 999999 : NONE, x.seed(999999, 1));
        due(BAD, x.seed(-1, 1));
        due(BAD, x.seed(1000000, 1));
        due(BAD, x.seed(0, 2));
        due(BAD, x.seed(0, -1));
        due(4, x.told(0));
        rareSeed();
    }

    /** Each test needs what the one ahead of it by number makes: 6 is flipped only if 0 to 5 lie in their order. */
    private static void rareSeed() {
        SoiledTests x = withTests(t(0, 0, 0, 1, 0), t(0, 1, 0, 2, 0), t(0, 2, 0, 4, 0), t(0, 4, 0, 8, 0), t(0, 8, 0, 16, 0),
            t(0, 16, 0, 32, 0), t(0, 32, 0, 0, 0), t(0, 0, 0, 0, 0));
        int found = 0;
        int before = 0;
        while (found - before <= 200) {
            before = found;
            do {
                found++;
            } while (!rises(shuffled(8, found)));
        }
        due(found, x.seed(found, 6));
        due(found, x.seed(found - 1, 6));
        due(found, x.seed(found - 199, 6));
        due(NONE, x.seed(found - 200, 6));
    }

    private static boolean rises(int[] row) {
        int next = 0;
        for (int t : row) {
            next += t == next ? 1 : 0;
        }
        return next >= 7;
    }

    private static void promise15() {
        SoiledTests x = five();
        due(NONE, x.at(0));
        laysAll(x, 4, 2);
        due(4, x.at(0));
        due(2, x.at(1));
        due(NONE, x.at(2));
        due(NONE, x.at(8));
        due(NONE, x.at(Integer.MAX_VALUE));
        due(BAD, x.at(-1));
        due(BAD, x.at(Integer.MIN_VALUE));
        due(2, x.told(0));
        due(0, x.told(1));
    }

    private static void promise16() {
        SoiledTests x = withTests(t(0, 0, 0, 5, 0), t(3, 48, 1, 2, 8), t(1, 0, 0, 0, 32));
        laysAll(x, 0, 1, 2);
        due(0, x.inRow(0, 0));
        due(1, x.inRow(0, 1));
        due(0, x.inRow(0, 2));
        due(0, x.inRow(0, 3));
        due(5, x.inRow(0, 4));
        due(1, x.inRow(1, 0));
        due(0, x.inRow(1, 1));
        due(0, x.inRow(1, 2));
        due(1 | 48, x.inRow(1, 3));
        due(5, x.inRow(1, 4));
        due(2, x.inRow(2, 0));
        due(0, x.inRow(2, 1));
        due(1, x.inRow(2, 2));
        due(1, x.inRow(2, 3));
        due(5, x.inRow(2, 4));
        x.mode(1);
        due(14, x.inRow(1, 4));
        due(1, x.inRow(2, 1));
        due(0, x.inRow(2, 2));
        due(14 | 32, x.inRow(2, 4));
        due(BAD, x.inRow(0, 5));
        due(BAD, x.inRow(0, -1));
        due(BAD, x.inRow(3, 0));
        due(BAD, x.inRow(-1, 0));
        due(0, x.told(1));
        x.wipes();
        due(NO, x.inRow(0, 0));
        due(BAD, x.inRow(0, 5));
        due(5, x.told(0));
        due(1, x.told(1));
    }

    private static void promise17() {
        SoiledTests x = withTests(t(0, 0, 0, 33, 0), t(0, 0, 0, 33, 0), t(0, 0, 1, 0, 2), t(1, 0, 0, 0, 0), t(1, 0, 0, 0, 63));
        laysAll(x, 0, 1, 2, 3, 4);
        due(NONE, x.who(0, 0));
        due(0, x.who(1, 0));
        // 1 makes a cell 1 that is 1: it became no other by it
        due(0, x.who(2, 0));
        due(0, x.who(3, 5));
        due(2, x.who(3, 0));
        due(2, x.who(3, 1));
        due(NONE, x.who(3, 2));
        // 4 turns all, but only behind itself
        due(2, x.who(4, 1));
        due(BAD, x.who(3, 6));
        due(BAD, x.who(3, -1));
        due(BAD, x.who(5, 0));
        due(BAD, x.who(-1, 0));
        x.wipes();
        due(NO, x.who(3, 0));
        due(BAD, x.who(3, 6));
        due(5, x.told(0));
        due(1, x.told(1));
        // one that fails makes nothing, so it was not it
        SoiledTests y = withTests(t(0, 1, 0, 2, 0), t(0, 0, 0, 0, 0));
        laysAll(y, 0, 1);
        due(NONE, y.who(1, 1));
        y.mode(1);
        due(0, y.who(1, 1));
    }

    private static void promise18() {
        SoiledTests x = five();
        laysAll(x, 0, 2, 4, 1, 3);
        due(16, x.left(1, 0));
        due(1, x.left(1, 1));
        due(1, x.left(1, 2));
        due(NO, x.left(0, 0));
        due(BAD, x.left(1, 3));
        due(BAD, x.left(1, -1));
        due(BAD, x.left(5, 0));
        due(BAD, x.left(-1, 0));
        due(BAD, x.left(0, 3));
        dueRow(x, 0, 2, 4, 1, 3);
        x.wipes();
        due(NO, x.left(1, 0));
        due(NO, x.left(1, 1));
        due(NO, x.left(1, 2));
        due(5, x.told(0));
        due(4, x.told(1));
        leastTwice();
        fewestOfLikeOnes();
        halvesOfOdd();
    }

    private static void leastTwice() {
        // 0 and 1 undo one another: neither can go by itself, and both at once are never tried
        SoiledTests x = withTests(t(0, 0, 0, 0, 1), t(0, 0, 0, 0, 1), t(0, 0, 0, 2, 0), t(1, 2, 0, 0, 0));
        laysAll(x, 0, 1, 2, 3);
        due(7, x.left(3, 0));
        due(4, x.left(3, 1));
        due(7, x.left(3, 2));
        // 0 keeps 1 from spoiling what 4 makes: it can go only once 1 is gone, so LEAST goes through again
        SoiledTests z = withTests(t(0, 0, 0, 1, 0), t(1, 0, 2, 0, 0), t(0, 0, 0, 0, 0), t(0, 2, 0, 0, 0), t(0, 0, 0, 2, 0));
        laysAll(z, 4, 0, 1, 3);
        due(1 << 4, z.left(3, 0));
        due(2, z.trims(3));
        dueRow(z, 4, 3);
    }

    private static void fewestOfLikeOnes() {
        SoiledTests x = withTests(t(3, 0, 0, 0, 0), t(0, 0, 0, 1, 0), t(0, 0, 0, 2, 0), t(0, 0, 0, 0, 1));
        laysAll(x, 3, 2, 1, 0);
        due(2, x.left(0, 1));
        // as bits 2 and 3 are more than 1 and 2, though they lie first
        SoiledTests y = withTests(t(0, 3, 0, 0, 0), t(0, 0, 0, 1, 0), t(0, 0, 0, 2, 0), t(0, 0, 0, 1, 0));
        laysAll(y, 3, 2, 1, 0);
        due(6, y.left(0, 1));
        due(6, y.left(0, 0));
        due(6, y.left(0, 2));
    }

    private static void halvesOfOdd() {
        // of three the first half has one, the others two
        SoiledTests x = withTests(t(1, 0, 0, 0, 0), t(0, 0, 0, 1, 0), t(0, 0, 0, 1, 0), t(0, 0, 0, 1, 0));
        laysAll(x, 2, 3, 1, 0);
        due(4, x.left(0, 2));
        SoiledTests y = withTests(t(1, 0, 0, 0, 0), t(0, 0, 0, 0, 2), t(0, 0, 0, 1, 0), t(0, 0, 0, 1, 0));
        laysAll(y, 1, 3, 2, 0);
        due(8, y.left(0, 2));
        // needs one of each half: it ends at once
        SoiledTests z = withTests(t(0, 3, 0, 0, 0), t(0, 0, 0, 1, 0), t(0, 0, 0, 0, 4), t(0, 0, 0, 0, 4), t(0, 0, 0, 2, 0));
        laysAll(z, 1, 2, 3, 4, 0);
        due(30, z.left(0, 2));
        due(18, z.left(0, 1));
        due(18, z.left(0, 0));
    }

    private static void promise19() {
        SoiledTests x = five();
        laysAll(x, 0, 2, 4, 1, 3);
        due(5, x.count(0));
        due(5, x.count(1));
        due(0, x.count(2));
        due(0, x.count(3));
        due(1, x.count(4));
        due(4, x.count(5));
        due(2, x.count(6));
        due(3, x.count(7));
        x.start(63);
        x.mode(1);
        due(63, x.count(2));
        due(1, x.count(3));
        x.wipes();
        due(63, x.count(4));
        due(0, x.count(5));
        due(0, x.count(6));
        // of all tests, also of those not in THE ROW: 2 and 4 soil 1, 4 soils 3
        due(3, x.count(7));
        SoiledTests y = withTests(t(1, 0, 0, 0, 0), t(0, 0, 0, 1, 0), t(0, 1, 0, 0, 0), t(1, 0, 0, 0, 0));
        due(3, y.count(7));
        laysAll(y, 2, 1, 0, 3);
        due(1, y.count(5));
        due(2, y.count(6));
        due(BAD, x.count(8));
        due(BAD, x.count(-1));
        due(2, x.told(0));
    }

    private static void promise20() {
        SoiledTests x = new SoiledTests();
        due(1, x.type(0));
        due(2, x.type(127));
        due(BAD, x.type(128));
        due(BAD, x.type(-1));
        due(2, x.told(3));
        for (int k = 3; k <= 150; k++) {
            due(k, x.type('w'));
        }
        due(FULL, x.type('w'));
        due(BAD, x.type(128));
        due(150, x.told(3));
        due(3, x.told(0));
        due(1, x.told(2));
        due(0, x.told(4));
    }

    private static void promise21() {
        SoiledTests x = new SoiledTests();
        due(0, x.clear());
        types(x, "w;w;");
        due(4, x.clear());
        due(0, x.told(3));
        due(0, x.told(4));
        types(x, "s");
        due(1, x.told(3));
        due(-11, x.does());
    }

    private static void promise22() {
        SoiledTests x = doing(7, "t1 2 4 8 16;t0 0 0 0 0; r1;r 0 ; s63;m1;  w;  ");
        due(2, x.count(0));
        for (int what = 0; what < 5; what++) {
            due(1 << what, x.of(0, what));
        }
        due(0, x.count(1));
        due(63, x.count(2));
        due(1, x.count(3));
        due(1, x.told(4));
        due(46, x.told(3));
        due(7, x.does());
        due(4, x.count(0));
        due(2, x.told(4));
        due(1, x.back());
        due(2, x.count(0));
        due(0, x.back());
        due(0, x.count(0));
        doesFaults();
        doesRefused();
        SoiledTests longest = doing(75, "w;".repeat(75));
        due(1, longest.told(4));
        doing(8, "t 0 0 0 0 00;".repeat(8));
        SoiledTests row = doing(5, "t0 0 0 0 0;t0 0 0 0 0;r1;r0;c;");
        dueRow(row, 0);
    }

    private static void doesFaults() {
        doing(-10, "");
        doing(-13, "   ");
        doing(-160, " ".repeat(150));
        doing(-160, "w;".repeat(74) + " w");
        doing(-11, "w");
        doing(-12, "w;;");
        doing(-11, "w1;");
        doing(-13, "w; 7");
        doing(-11, "r;");
        doing(-13, "s 1");
        doing(-13, "s12");
        doing(-14, "s 12");
        doing(-13, "s123;");
        doing(-13, "s1 2;");
        doing(-14, "s12 3;");
        doing(-11, "sw;");
        doing(-10, "T0 0 0 0 0;");
        doing(-10, ";");
        doing(-10, "1");
        doing(-11, " \t");
        doing(-12, "s1\t;");
        doing(-11, "s-1;");
        doing(-11, "r/;");
        doing(-11, "r:;");
        doing(-18, "t0 0 0 0;");
        doing(-21, "t0 0 0 0 0 0;");
        doing(-15, "t12 3a5 6 7 8;");
        doing(-16, "t12 345 6 7 8;");
        doing(-20, "t0 0 0 0 0w;");
        doing(-12, "w;x");
        SoiledTests x = doing(-13, "s5;x");
        due(0, x.count(2));
        due(0, x.told(4));
        due(0, x.told(0));
    }

    private static void doesRefused() {
        doing(-1000, "c;");
        doing(-1000, "s64;");
        doing(-1000, "s99;");
        doing(-1000, "m2;");
        doing(-1000, "r0;");
        doing(-1002, "w;w;r1;w;");
        doing(-1008, "t0 0 0 0 0;".repeat(9));
        doing(-1001, "t0 0 0 0 0;t1 1 0 0 0;");
        doing(-1001, "t0 0 0 0 0;t0 64 0 0 0;");
        doing(-1074, "w;".repeat(74) + "c;");
        SoiledTests x = new SoiledTests();
        x.test(0, 0, 0, 0, 0);
        x.lays(0);
        x.start(9);
        types(x, "t1 0 0 0 0;r1;s5;m1;w;c;r0;r0;");
        due(-1007, x.does());
        due(1, x.count(0));
        dueRow(x, 0);
        due(9, x.count(2));
        due(0, x.count(3));
        for (int what = 0; what < 3; what++) {
            due(0, x.told(what));
        }
        due(30, x.told(3));
        due(3, x.told(4));
        due(2, x.back());
        due(0, x.count(2));
        // a fault far behind comes ahead of an order that would be refused
        doing(-13, "c;w");
    }

    private static void promise23() {
        SoiledTests x = new SoiledTests();
        due(NO, x.back());
        for (int n = 1; n <= 7; n++) {
            x.start(n);
        }
        due(5, x.told(4));
        for (int n = 6; n >= 2; n--) {
            due(n - 2, x.back());
            due(n, x.count(2));
        }
        due(NO, x.back());
        due(2, x.count(2));
        due(2, x.told(1));
        // a way on from a state gone back to
        x.start(10);
        x.start(11);
        due(1, x.back());
        x.start(12);
        due(1, x.back());
        due(10, x.count(2));
        due(0, x.back());
        due(2, x.count(2));
        // all but the text and how often refused
        SoiledTests y = five();
        y.shuffles(3);
        y.start(5);
        y.mode(1);
        String before = stateOf(y);
        y.wipes();
        y.cuts();
        y.test(9, 0, 9, 0, 0);
        y.lays(4);
        y.mode(0);
        for (int k = 4; k >= 0; k--) {
            due(k, y.back());
        }
        due(1, before.equals(stateOf(y)) ? 1 : 0);
        types(y, "w;");
        due(BAD, y.mode(5));
        y.wipes();
        due(0, y.back());
        due(2, y.told(3));
        due(1, y.told(0));
        due(5, y.count(0));
        due(5, y.count(2));
        due(1, y.count(3));
        dueRow(y, shuffled(5, 3));
        due(1, before.equals(stateOf(y)) ? 1 : 0);
    }

    private static String stateOf(SoiledTests x) {
        StringBuilder all = new StringBuilder();
        for (int what = 0; what < 8; what++) {
            all.append(x.count(what)).append(' ');
        }
        for (int t = 0; t < x.count(0); t++) {
            for (int what = 0; what < 6; what++) {
                all.append(x.of(t, what)).append(' ');
            }
        }
        for (int k = 0; k < x.count(1); k++) {
            all.append(x.at(k)).append(' ');
        }
        return all.toString();
    }

    private static void promise24() {
        SoiledTests x = new SoiledTests();
        x.test(-1, 0, 0, 0, 0);
        x.cuts();
        x.back();
        due(1, x.told(0));
        due(2, x.told(1));
        due(0, x.told(2));
        due(0, x.told(3));
        due(0, x.told(4));
        due(BAD, x.told(5));
        due(BAD, x.told(-1));
        due(3, x.told(0));
        x.type('w');
        due(1, x.told(3));
        x.wipes();
        x.wipes();
        due(2, x.told(4));
        // nothing counts by does()
        x.does();
        x.type(';');
        x.type('c');
        x.type(';');
        due(-1001, x.does());
        due(3, x.told(0));
        due(2, x.told(1));
        due(2, x.told(4));
    }

    private static void promise25() {
        long h = 18056;
        for (int k = 0; k < 5 + 8 + 3; k++) {
            h *= 31;
        }
        due(h, new SoiledTests().digest());
        SoiledTests x = five();
        laysAll(x, 0, 2, 4, 1, 3);
        types(x, "w;");
        x.at(-1);
        due(digestByHand(x), x.digest());
        due(x.digest(), x.digest());
        x.start(7);
        x.mode(1);
        due(digestByHand(x), x.digest());
        due(1, x.told(0));
        due(5, x.told(4));
    }

    private static long digestByHand(SoiledTests x) {
        java.util.List<Integer> all = new java.util.ArrayList<>();
        for (int what = 0; what <= 4; what++) {
            all.add(x.told(what));
        }
        for (int what = 0; what <= 7; what++) {
            all.add(x.count(what));
        }
        for (int t = 0; t < x.count(0); t++) {
            for (int what = 0; what <= 5; what++) {
                all.add(x.of(t, what));
            }
        }
        for (int k = 0; k < x.count(1); k++) {
            all.add(x.at(k));
            for (int what = 1; what <= 4; what++) {
                all.add(x.inRow(x.at(k), what));
            }
        }
        for (int seed = 1; seed <= 3; seed++) {
            all.add(x.flips(seed));
        }
        long h = 18056;
        for (int v : all) {
            h = 31 * h + v;
        }
        return h;
    }

    public static void main(String[] args) {
        Runnable[] promises = {PromisesTest::promise1, PromisesTest::promise2, PromisesTest::promise3,
            PromisesTest::promise4, PromisesTest::promise5, PromisesTest::promise6, PromisesTest::promise7,
            PromisesTest::promise8, PromisesTest::promise9, PromisesTest::promise10, PromisesTest::promise11,
            PromisesTest::promise12, PromisesTest::promise13, PromisesTest::promise14, PromisesTest::promise15,
            PromisesTest::promise16, PromisesTest::promise17, PromisesTest::promise18, PromisesTest::promise19,
            PromisesTest::promise20, PromisesTest::promise21, PromisesTest::promise22, PromisesTest::promise23,
            PromisesTest::promise24, PromisesTest::promise25};
        for (Runnable one : promises) {
            promise++;
            one.run();
        }
        System.out.println(promise + " promises, " + calls + " answers, " + wrong + " not as due");
        if (wrong != 0) {
            System.exit(1);
        }
    }
}
