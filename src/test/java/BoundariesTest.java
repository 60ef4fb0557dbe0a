import java.io.IOException;
import java.lang.annotation.Retention;
import java.lang.annotation.RetentionPolicy;
import java.lang.reflect.Method;
import java.nio.file.Files;
import java.nio.file.Path;
import java.util.ArrayList;
import java.util.Comparator;
import java.util.List;
import java.util.function.ToIntFunction;

/** A test of its own for each sentence of the document that names a boundary case; the sentence stands above it. */
public final class BoundariesTest {
    private static final int NONE = -1, BAD = -2, NO = -3, FULL = -4;
    private static final int LOWEST = Integer.MIN_VALUE, HIGHEST = Integer.MAX_VALUE;
    private static final Path DOCUMENT = Path.of("../shared/DOC.md");

    /** The words of the document that a test is for; promise 0 is what stands ahead of the first promise. */
    @Retention(RetentionPolicy.RUNTIME)
    private @interface Says {
        int promise();

        String words();
    }

    private static Method running;
    private static int answers = 0;
    private static int wrong = 0;

    // ---- what the tests share

    private static void due(long want, long got) {
        answers++;
        if (got != want) {
            wrong++;
            Says says = running.getAnnotation(Says.class);
            System.out.println("promise " + says.promise() + ", \"" + says.words() + "\", " + running.getName() + ", line "
                + lineOfTest() + ": answered " + got + ", due is " + want);
        }
    }

    private static void dueTrue(boolean so) {
        due(1, so ? 1 : 0);
    }

    private static int lineOfTest() {
        for (StackTraceElement at : new Throwable().getStackTrace()) {
            if (at.getMethodName().equals(running.getName())) {
                return at.getLineNumber();
            }
        }
        return 0;
    }

    /** A refused call answers why, is counted once, and changes nothing else. */
    private static void refused(int why, SoiledTests x, ToIntFunction<SoiledTests> call) {
        int[] before = {x.told(0), x.told(1), x.told(2)};
        String state = stateOf(x);
        due(why, call.applyAsInt(x));
        for (int k = 0; k < 3; k++) {
            due(before[k] + (k == BAD - why ? 1 : 0), x.told(k));
        }
        dueTrue(state.equals(stateOf(x)));
    }

    /** A call told S that is not refused: its answer, one STATE more, and back() takes it back. */
    private static void leavesState(int want, SoiledTests x, ToIntFunction<SoiledTests> call) {
        int states = x.told(4);
        String before = stateOf(x);
        due(want, call.applyAsInt(x));
        due(Math.min(states + 1, 5), x.told(4));
        x.back();
        dueTrue(before.equals(stateOf(x)) || states == 5);
    }

    private static String stateOf(SoiledTests x) {
        StringBuilder all = new StringBuilder();
        for (int what = 0; what <= 7; what++) {
            all.append(x.count(what)).append(' ');
        }
        for (int t = 0; t < x.count(0); t++) {
            for (int what = 0; what <= 4; what++) {
                all.append(x.of(t, what)).append(' ');
            }
        }
        for (int k = 0; k < x.count(1); k++) {
            all.append(x.at(k)).append(' ');
        }
        return all.append(x.told(3)).append(' ').append(x.told(4)).toString();
    }

    private static int[] t(int a, int b, int c, int d, int e) {
        return new int[] {a, b, c, d, e};
    }

    private static int[] needs0(int cells) {
        return t(cells, 0, 0, 0, 0);
    }

    private static int[] needs1(int cells) {
        return t(0, cells, 0, 0, 0);
    }

    private static int[] makes0(int cells) {
        return t(0, 0, cells, 0, 0);
    }

    private static int[] makes1(int cells) {
        return t(0, 0, 0, cells, 0);
    }

    private static int[] turns(int cells) {
        return t(0, 0, 0, 0, cells);
    }

    private static final int[] IDLE = {0, 0, 0, 0, 0};

    private static int adds(SoiledTests x, int[] t) {
        return x.test(t[0], t[1], t[2], t[3], t[4]);
    }

    private static SoiledTests with(int[]... tests) {
        SoiledTests x = new SoiledTests();
        for (int[] t : tests) {
            adds(x, t);
        }
        return x;
    }

    private static SoiledTests idle(int number) {
        SoiledTests x = new SoiledTests();
        for (int k = 0; k < number; k++) {
            adds(x, IDLE);
        }
        return x;
    }

    private static SoiledTests laid(SoiledTests x, int... tests) {
        for (int t : tests) {
            x.lays(t);
        }
        return x;
    }

    /** 0 makes cell 0 1; 1 needs it to be 0, so 0 soils 1; 2 makes it 0; the row is 0, 1; 2 is not in it. */
    private static SoiledTests soiled() {
        return laid(with(makes1(1), needs0(1), makes0(1)), 0, 1);
    }

    private static SoiledTests typed(SoiledTests x, String text) {
        for (int i = 0; i < text.length(); i++) {
            x.type(text.charAt(i));
        }
        return x;
    }

    private static SoiledTests typed(String text) {
        return typed(new SoiledTests(), text);
    }

    private static void dueOfText(int want, String text) {
        due(want, typed(text).does());
    }

    private static void dueRow(SoiledTests x, int... tests) {
        due(tests.length, x.count(1));
        for (int k = 0; k < tests.length; k++) {
            due(tests[k], x.at(k));
        }
        due(NONE, x.at(tests.length));
    }

    /** As the document tells SHUFFLED, but with numbers that have no bound. */
    private static int[] shuffled(int number, int seed) {
        int[] row = new int[number];
        for (int i = 0; i < number; i++) {
            row[i] = i;
        }
        java.math.BigInteger x = java.math.BigInteger.valueOf(seed);
        for (int i = number - 1; i >= 1; i--) {
            x = x.multiply(java.math.BigInteger.valueOf(1103515245)).add(java.math.BigInteger.valueOf(12345))
                .mod(java.math.BigInteger.valueOf(2147483648L));
            int j = x.divide(java.math.BigInteger.valueOf(65536)).mod(java.math.BigInteger.valueOf(i + 1)).intValue();
            int held = row[i];
            row[i] = row[j];
            row[j] = held;
        }
        return row;
    }

    private static int placeIn(int[] row, int t) {
        int place = 0;
        while (row[place] != t) {
            place++;
        }
        return place;
    }

    // ---- ahead of the promises

    @Says(promise = 0, words = "An object is used for at most 512 calls after it has been made")
    private static void goodToTheLastCall() {
        SoiledTests x = new SoiledTests();
        for (int k = 1; k <= 510; k++) {
            due(k == 1 ? 0 : (k - 1) % 64, x.start(k % 64));
        }
        due(5, x.told(4));
        due(4, x.back());
        SoiledTests y = new SoiledTests();
        for (int k = 1; k <= 511; k++) {
            due(BAD, y.at(-k));
        }
        due(511, y.told(0));
    }

    @Says(promise = 0, words = "5, each 0 or 1, as bits of a number")
    private static void sixCells() {
        SoiledTests x = laid(with(makes1(1), makes1(2), makes1(4), makes1(8), makes1(16), makes1(32), IDLE), 0, 1, 2, 3, 4, 5, 6);
        due(63, x.count(4));
        for (int cell = 0; cell <= 5; cell++) {
            due(cell, x.who(6, cell));
            due((2 << cell) - 1, x.inRow(cell, 4));
        }
    }

    @Says(promise = 0, words = "START (0 .. 63; 0)")
    private static void startIsZeroAtFirst() {
        SoiledTests x = new SoiledTests();
        due(0, x.count(2));
        due(0, x.start(63));
    }

    @Says(promise = 0, words = "TESTS 0 on, as they come (never more than 8)")
    private static void neverMoreThanEight() {
        SoiledTests x = new SoiledTests();
        for (int k = 0; k < 8; k++) {
            due(k, adds(x, turns(k)));
        }
        for (int k = 0; k < 3; k++) {
            due(FULL, adds(x, IDLE));
        }
        due(8, x.count(0));
        for (int k = 0; k < 8; k++) {
            due(k, x.of(k, 4));
        }
        due(BAD, x.of(8, 4));
    }

    @Says(promise = 0, words = "(each of these in one of the three at most)")
    private static void neededCellsMayBeMade() {
        SoiledTests x = new SoiledTests();
        due(0, x.test(63, 0, 63, 0, 0));
        due(1, x.test(63, 0, 0, 63, 0));
        due(2, x.test(63, 0, 0, 0, 63));
        due(3, x.test(0, 63, 63, 0, 0));
        due(4, x.test(0, 63, 0, 63, 0));
        due(5, x.test(0, 63, 0, 0, 63));
        due(6, x.test(7, 56, 3, 12, 48));
    }

    @Says(promise = 0, words = "MODE 0 (at first) or 1")
    private static void modeIsZeroAtFirst() {
        SoiledTests x = new SoiledTests();
        due(0, x.count(3));
        due(0, x.mode(1));
    }

    @Says(promise = 0, words = "PASSES, if all it NEEDS is so")
    private static void needingNothingPasses() {
        SoiledTests x = idle(1);
        due(1, x.of(0, 5));
        x.start(63);
        due(1, x.of(0, 5));
    }

    @Says(promise = 0, words = "PASSES, if all it NEEDS is so")
    private static void oneOfSixWrongFails() {
        SoiledTests x = with(t(21, 42, 0, 0, 0));
        x.start(42);
        due(1, x.of(0, 5));
        for (int cell = 0; cell <= 5; cell++) {
            x.start(42 ^ 1 << cell);
            due(0, x.of(0, 5));
        }
    }

    @Says(promise = 0, words = "CELLS become as it makes and TURNS them, if it PASSES, or MODE is 1")
    private static void failingMakesNothingInModeZero() {
        SoiledTests x = laid(with(t(0, 1, 2, 4, 8)), 0);
        x.start(2);
        due(2, x.count(4));
        x.mode(1);
        due(12, x.count(4));
        x.start(3);
        due(13, x.count(4));
        x.mode(0);
        due(13, x.count(4));
    }

    @Says(promise = 0, words = "CELLS become as it makes and TURNS them")
    private static void makingWhatIsSoAndTurningBothWays() {
        SoiledTests x = laid(with(t(0, 0, 3, 12, 48)), 0);
        x.start(1 | 4 | 16);
        due(12 | 32, x.count(4));
        x.start(0);
        due(12 | 48, x.count(4));
        x.start(63);
        due(12, x.count(4));
    }

    @Says(promise = 0, words = "is done from START, one behind the other")
    private static void emptyRowLeavesStart() {
        SoiledTests x = with(turns(63));
        due(0, x.count(4));
        x.start(41);
        due(41, x.count(4));
        x.lays(0);
        due(22, x.count(4));
    }

    @Says(promise = 0, words = "ALONE of a TEST: whether it PASSES as a row by itself")
    private static void aloneWhateverTheRowHolds() {
        SoiledTests x = with(makes1(1), needs0(1));
        due(1, x.of(1, 5));
        laid(x, 0, 1);
        due(1, x.of(1, 5));
        due(0, x.inRow(1, 1));
        x.start(1);
        due(0, x.of(1, 5));
    }

    @Says(promise = 0, words = "if it PASSES there and not ALONE, or ALONE and not there")
    private static void flippedBothWays() {
        SoiledTests x = laid(with(makes1(1), needs0(1), needs1(1), needs0(2), needs1(2)), 0, 1, 2, 3, 4);
        int[] passes = {1, 0, 1, 1, 0};
        int[] flipped = {0, 1, 1, 0, 0};
        for (int t = 0; t < 5; t++) {
            due(passes[t], x.inRow(t, 1));
            due(flipped[t], x.inRow(t, 2));
        }
    }

    @Says(promise = 0, words = "if it PASSES there and not ALONE, or ALONE and not there")
    private static void firstOfARowIsNeverFlipped() {
        SoiledTests x = laid(with(needs0(1), needs1(1)), 0);
        due(0, x.inRow(0, 2));
        x.wipes();
        x.lays(1);
        due(0, x.inRow(1, 2));
        due(0, x.inRow(1, 1));
    }

    @Says(promise = 0, words = "WRONG CELLS of a TEST in it: those that are not as it NEEDS, when it is done")
    private static void wrongCellsNoneAndAll() {
        SoiledTests x = laid(with(turns(63), t(7, 56, 0, 0, 63), IDLE), 0, 1, 2);
        due(7, x.inRow(1, 3));
        x.start(56);
        due(63, x.inRow(1, 3));
        x.start(7);
        due(0, x.inRow(1, 3));
        due(0, x.inRow(0, 3));
        due(0, x.inRow(2, 3));
        x.mode(1);
        x.start(56);
        due(63, x.inRow(1, 3));
    }

    @Says(promise = 0, words = "(NONE: none did)")
    private static void nobodyForTheFirst() {
        SoiledTests x = laid(with(t(0, 0, 0, 63, 0), IDLE), 0, 1);
        x.start(5);
        for (int cell = 0; cell <= 5; cell++) {
            due(NONE, x.who(0, cell));
            due(cell == 0 || cell == 2 ? NONE : 0, x.who(1, cell));
        }
    }

    @Says(promise = 0, words = "of the TESTS ahead of it the last one by which that CELL became another")
    private static void whoTurnsItBackIsTheLastOne() {
        SoiledTests x = laid(with(turns(1), turns(1), makes0(1), IDLE, turns(1)), 0, 1, 2, 3, 4);
        due(0, x.who(1, 0));
        due(1, x.who(2, 0));
        due(1, x.who(3, 0));
        due(1, x.who(4, 0));
    }

    @Says(promise = 0, words = "of the TESTS ahead of it the last one by which that CELL became another")
    private static void whoMakesWhatIsSoAlreadyIsNotTheOne() {
        SoiledTests x = laid(with(makes1(1), makes1(1), makes0(1), makes0(1), IDLE), 0, 1, 4, 2, 3);
        due(0, x.who(1, 0));
        due(0, x.who(4, 0));
        due(0, x.who(2, 0));
        due(2, x.who(3, 0));
        x.start(1);
        due(NONE, x.who(4, 0));
        due(2, x.who(3, 0));
    }

    @Says(promise = 0, words = "of the TESTS ahead of it the last one by which that CELL became another")
    private static void whoFailsDoesItInModeOneAlone() {
        SoiledTests x = laid(with(turns(1), t(0, 2, 0, 0, 1), IDLE), 0, 1, 2);
        due(0, x.who(2, 0));
        x.mode(1);
        due(1, x.who(2, 0));
    }

    @Says(promise = 0, words = "p SOILS v (unlike): v is FLIPPED in the row p, v")
    private static void soilsFromStartNotBehindTheRow() {
        SoiledTests x = laid(with(makes1(1), needs0(1), makes0(1), t(0, 1, 0, 0, 1)), 0, 3, 2, 1);
        due(1, x.soils(0, 1));
        due(0, x.soils(2, 1));
        due(0, x.soils(3, 1));
        x.start(1);
        due(0, x.soils(0, 1));
        due(1, x.soils(2, 1));
        due(1, x.soils(3, 1));
    }

    @Says(promise = 0, words = "p SOILS v (unlike): v is FLIPPED in the row p, v")
    private static void oneThatFailsSoilsInModeOneAlone() {
        SoiledTests x = with(t(0, 1, 0, 2, 0), needs0(2));
        due(0, x.soils(0, 1));
        due(0, x.count(7));
        refused(NO, x, y -> y.cleans(0, 1));
        x.mode(1);
        due(1, x.soils(0, 1));
        due(1, x.count(7));
        due(0, x.cleans(0, 1));
    }

    @Says(promise = 0, words = "c CLEANS p for v (all unlike)")
    private static void neitherOfTheTwoCleans() {
        // 0 behind itself would turn the cell back, and 1 in MODE 1 ahead of itself would make it 0
        SoiledTests x = with(turns(1), t(1, 0, 1, 0, 0), turns(1));
        x.mode(1);
        due(4, x.cleans(0, 1));
        x.cuts();
        due(0, x.cleans(0, 1));
    }

    @Says(promise = 0, words = "v is not FLIPPED in the row p, c, v")
    private static void cleanerThatFailsCleansInModeOneAlone() {
        SoiledTests x = with(makes1(1), needs0(1), t(1, 0, 1, 0, 0), t(0, 1, 1, 0, 0));
        due(8, x.cleans(0, 1));
        x.mode(1);
        due(12, x.cleans(0, 1));
    }

    @Says(promise = 0, words = "(For a TEST v of THE ROW that is FLIPPED there; AHEAD: the TESTS ahead of it, in order.)")
    private static void whatIsBehindIsNotAhead() {
        SoiledTests x = laid(with(makes1(1), needs0(1), makes1(1), makes0(1)), 2, 1, 0, 3);
        for (int how = 0; how <= 2; how++) {
            due(4, x.left(1, how));
        }
    }

    @Says(promise = 0, words = "each is taken out, if v is FLIPPED in the row of all others that are left yet")
    private static void leastOfLikeOnesIsTheLast() {
        SoiledTests x = laid(with(makes1(1), makes1(1), makes1(1), makes1(1), needs0(1)), 3, 0, 2, 1, 4);
        due(2, x.left(4, 0));
    }

    @Says(promise = 0, words = "each is taken out, if v is FLIPPED in the row of all others that are left yet")
    private static void leastKeepsTheOnlyOne() {
        SoiledTests x = soiled();
        due(1, x.left(1, 0));
        due(0, x.trims(1));
    }

    @Says(promise = 0, words = "each is taken out, if v is FLIPPED in the row of all others that are left yet")
    private static void leastOfSevenIsAllOrOne() {
        int[][] all = new int[8][];
        all[7] = needs1(63);
        for (int k = 0; k < 6; k++) {
            all[k] = makes1(1 << k);
        }
        all[6] = needs1(64 - 1);
        SoiledTests x = laid(with(all), 0, 1, 2, 3, 4, 5, 6, 7);
        due(63, x.left(7, 0));
        due(63, x.left(6, 0));
        due(63, x.left(7, 1));
    }

    @Says(promise = 0, words = "then all that are left again, from the first to the last, till none goes")
    private static void leastGoesThroughFourTimes() {
        // the fourth time through takes out the last one that goes
        SoiledTests x = with(t(0, 0, 0, 32, 13), t(0, 36, 0, 34, 1), t(16, 4, 25, 0, 2), t(48, 1, 12, 48, 1),
            t(0, 0, 8, 33, 0), t(1, 0, 1, 38, 0), t(18, 36, 0, 25, 0), t(8, 0, 4, 2, 0));
        laid(x, 0, 1, 2, 3, 4, 5, 6, 7);
        due(1, x.left(7, 0));
        due(6, x.trims(7));
        dueRow(x, 0, 7);
    }

    @Says(promise = 0, words = "then all that are left again, from the first to the last, till none goes")
    private static void twoThatUndoEachOtherStay() {
        SoiledTests x = laid(with(turns(1), turns(1), makes1(2), t(1, 2, 0, 0, 0)), 0, 1, 2, 3);
        due(7, x.left(3, 0));
        due(0, x.trims(3));
    }

    @Says(promise = 0, words = "from the first one of AHEAD to the last")
    private static void leastGoesToTheLastAheadOfTheFirstAgain() {
        // once 1 is gone, 0 could go, too, but it is the turn of 2, and behind that 0 can not
        SoiledTests x = laid(with(makes1(1), t(1, 0, 0, 2, 0), t(2, 0, 0, 1, 0), needs0(1)), 0, 1, 2, 3);
        due(1, x.left(3, 0));
        due(2, x.trims(3));
        dueRow(x, 0, 3);
    }

    @Says(promise = 0, words = "that with the fewest TESTS")
    private static void fewestIsFewerThanLeast() {
        SoiledTests x = laid(with(turns(1), turns(1), makes1(2), t(1, 2, 0, 0, 0)), 0, 1, 2, 3);
        due(4, x.left(3, 1));
        // one with a high number is fewer than two with low ones
        SoiledTests y = laid(with(makes1(1), t(0, 1, 0, 2, 0), makes1(2), needs0(2)), 2, 0, 1, 3);
        due(3, y.left(3, 0));
        due(4, y.left(3, 1));
    }

    @Says(promise = 0, words = "of like ones the least as bits (TEST t bit t)")
    private static void fewestOfLikeOnesIsTheLeastAsBits() {
        SoiledTests x = laid(with(makes1(1), makes1(1), makes1(1), needs0(1)), 2, 0, 1, 3);
        due(1, x.left(3, 1));
        SoiledTests y = laid(with(makes1(1), makes1(2), makes1(2), makes1(1), needs1(3)), 3, 2, 1, 0, 4);
        due(3, y.left(4, 1));
    }

    @Says(promise = 0, words = "(in their order, v behind them)")
    private static void fewestInTheOrderOfTheRow() {
        // only 1 ahead of 0 makes cell 1 1
        SoiledTests x = laid(with(t(0, 1, 0, 2, 0), makes1(1), IDLE, needs1(2)), 1, 2, 0, 3);
        for (int how = 0; how <= 1; how++) {
            due(3, x.left(3, how));
        }
        SoiledTests y = laid(with(t(0, 1, 0, 2, 0), makes1(1), IDLE, needs1(2)), 2, 1, 0, 3);
        due(3, y.left(3, 2));
    }

    @Says(promise = 0, words = "HALVES: as long as there are 2 or more")
    private static void halvesOfOneAndTwo() {
        due(1, soiled().left(1, 2));
        SoiledTests x = laid(with(makes1(1), IDLE, needs0(1)), 1, 0, 2);
        due(1, x.left(2, 2));
        SoiledTests y = laid(with(makes1(1), IDLE, needs0(1)), 0, 1, 2);
        due(1, y.left(2, 2));
    }

    @Says(promise = 0, words = "HALVES: as long as there are 2 or more")
    private static void halvesOfSevenDownToOne() {
        for (int place = 0; place < 7; place++) {
            int[][] all = new int[8][];
            for (int k = 0; k < 7; k++) {
                all[k] = k == place ? makes1(1) : IDLE;
            }
            all[7] = needs0(1);
            due(1 << place, laid(with(all), 0, 1, 2, 3, 4, 5, 6, 7).left(7, 2));
        }
    }

    @Says(promise = 0, words = "if v is FLIPPED behind the first half (cut) alone, that is left")
    private static void firstHalfOfThreeIsOne() {
        SoiledTests x = laid(with(makes1(1), makes1(2), IDLE, needs1(3)), 2, 0, 1, 3);
        due(3, x.left(3, 2));
        SoiledTests y = laid(with(makes1(1), makes1(2), IDLE, needs1(3)), 0, 1, 2, 3);
        due(7, y.left(3, 2));
    }

    @Says(promise = 0, words = "if v is FLIPPED behind the first half (cut) alone, that is left")
    private static void firstHalfOfSevenIsThree() {
        SoiledTests x = with(makes1(1), makes1(2), IDLE, IDLE, IDLE, IDLE, IDLE, needs1(3));
        laid(x, 2, 3, 4, 0, 5, 6, 1, 7);
        due(1 | 2 | 32 | 64, x.left(7, 2));
        x.wipes();
        laid(x, 0, 2, 1, 3, 4, 5, 6, 7);
        due(1 | 2 | 4, x.left(7, 2));
        x.wipes();
        laid(x, 0, 2, 3, 1, 4, 5, 6, 7);
        due(127, x.left(7, 2));
    }

    @Says(promise = 0, words = "if v is FLIPPED behind the first half (cut) alone, that is left")
    private static void firstHalfComesAheadOfTheOthers() {
        SoiledTests x = laid(with(makes1(1), makes1(1), makes1(1), makes1(1), needs0(1)), 2, 3, 0, 1, 4);
        due(4, x.left(4, 2));
    }

    @Says(promise = 0, words = "else, if behind the others alone, these; else it ends")
    private static void othersOrItEnds() {
        SoiledTests x = laid(with(IDLE, IDLE, makes1(1), makes1(2), needs1(3)), 0, 1, 2, 3, 4);
        due(12, x.left(4, 2));
        SoiledTests y = laid(with(IDLE, makes1(1), makes1(2), IDLE, needs1(3)), 0, 1, 2, 3, 4);
        due(15, y.left(4, 2));
    }

    @Says(promise = 0, words = "SHUFFLED by a SEED (0 .. 999999): all TESTS by numbers")
    private static void shuffledFromTheNumbersNotFromTheRow() {
        SoiledTests x = laid(idle(8), 7, 6, 5);
        x.shuffles(1);
        dueRow(x, 1, 7, 2, 5, 0, 3, 4, 6);
        x.shuffles(1);
        dueRow(x, 1, 7, 2, 5, 0, 3, 4, 6);
    }

    @Says(promise = 0, words = "for i from their number less 1 down to 1")
    private static void shuffledOfNoneOneAndTwo() {
        SoiledTests x = new SoiledTests();
        due(0, x.shuffles(1));
        adds(x, IDLE);
        due(1, x.shuffles(1));
        dueRow(x, 0);
        adds(x, IDLE);
        // X is 1103527590, by 65536 (cut) 16838, by 2 nothing is left over: 1 changes places with 0
        due(2, x.shuffles(1));
        dueRow(x, 1, 0);
        // X is 12345, by 65536 (cut) 0
        due(2, x.shuffles(0));
        dueRow(x, 1, 0);
    }

    @Says(promise = 0, words = "X (SEED at first) becomes X times 1103515245 and 12345, by 2147483648 what is left over")
    private static void shuffledWithNumbersBeyondAnInt() {
        SoiledTests x = idle(8);
        for (int seed : new int[] {0, 1, 2, 3, 65535, 65536, 123456, 524287, 777777, 999998, 999999}) {
            x.shuffles(seed);
            dueRow(x, shuffled(8, seed));
        }
    }

    @Says(promise = 0, words = "THE TEXT (150 bytes at most)")
    private static void textOfAHundredAndFiftyBytes() {
        SoiledTests x = typed("w;".repeat(75));
        due(150, x.told(3));
        due(FULL, x.type('w'));
        due(75, x.does());
        dueOfText(1, " ".repeat(148) + "w;");
        dueOfText(1, "w;" + " ".repeat(148));
        dueOfText(8, ("t" + " ".repeat(5) + "1 2 4 8 16;").repeat(8) + " ".repeat(14));
    }

    @Says(promise = 0, words = "THE TEXT (150 bytes at most)")
    private static void lateOrdersHaveTheirNumbers() {
        SoiledTests x = typed("s9;".repeat(49) + "s5;");
        due(50, x.does());
        due(5, x.count(2));
        SoiledTests y = typed("w;".repeat(69) + "t1 2 4 8 16;");
        due(70, y.does());
        for (int what = 0; what <= 4; what++) {
            due(1 << what, y.of(0, what));
        }
    }

    @Says(promise = 0, words = "tells ORDERS, each ended by ;")
    private static void orderWithoutItsEnd() {
        dueOfText(-11, "w");
        dueOfText(-11, "c");
        dueOfText(-12, "s1");
        dueOfText(-12, "m1");
        dueOfText(-12, "r0");
        dueOfText(-20, "t0 0 0 0 0");
        dueOfText(-13, "w;w");
        dueOfText(-11, "ww;");
        dueOfText(-12, "w;;");
        dueOfText(-10, ";");
    }

    @Says(promise = 0, words = "t a b c d e (as test), r t (as lays), w (as wipes), s n (as start), m n (as mode), c (as cuts)")
    private static void eachOrderDoesAsItsCall() {
        SoiledTests x = typed("t1 2 4 8 16;");
        due(1, x.does());
        for (int what = 0; what <= 4; what++) {
            due(1 << what, x.of(0, what));
        }
        SoiledTests y = typed(idle(3), "r2;r0;s63;m1;c;");
        due(5, y.does());
        due(2, y.count(0));
        dueRow(y, 0);
        due(63, y.count(2));
        due(1, y.count(3));
        y.clear();
        due(1, typed(y, "w;").does());
        dueRow(y);
    }

    @Says(promise = 0, words = "t a b c d e (as test), r t (as lays), w (as wipes), s n (as start), m n (as mode), c (as cuts)")
    private static void noOtherLetters() {
        for (int c = 0; c <= 127; c++) {
            SoiledTests x = new SoiledTests();
            x.type(c);
            due("trwsmc ".indexOf(c) >= 0 ? -11 : -10, x.does());
        }
    }

    @Says(promise = 0, words = "t a b c d e (as test), r t (as lays), w (as wipes), s n (as start), m n (as mode), c (as cuts)")
    private static void numbersTooFewOrTooMany() {
        dueOfText(-11, "r;");
        dueOfText(-11, "s;");
        dueOfText(-11, "m;");
        dueOfText(-11, "t;");
        dueOfText(-18, "t0 0 0 0;");
        dueOfText(-19, "t0 0 0 0 ;");
        dueOfText(-21, "t0 0 0 0 0 0;");
        dueOfText(-13, "r0 0;");
        dueOfText(-13, "s0 0;");
        dueOfText(-13, "m0 0;");
        dueOfText(-11, "w0;");
        dueOfText(-11, "c0;");
        dueOfText(-12, "w 0;");
    }

    @Says(promise = 0, words = "Numbers have 1 or 2 figures")
    private static void oneOrTwoFigures() {
        for (String n : new String[] {"5", "05", "50", "00", "0", "9", "09", "63"}) {
            SoiledTests x = typed("s" + n + ";");
            due(1, x.does());
            due(Integer.parseInt(n), x.count(2));
        }
        SoiledTests x = typed("t01 02 04 08 16;");
        due(1, x.does());
        due(16, x.of(0, 4));
        due(8, x.of(0, 3));
    }

    @Says(promise = 0, words = "blanks (32) may stand anywhere but within a number")
    private static void blanksAnywhereElse() {
        dueOfText(2, "  s  12  ;  t  1  2  4  8  16  ;  ");
        dueOfText(1, " w ; ");
        dueOfText(-13, "s1 2;");
        dueOfText(-14, "s1  2;");
        dueOfText(-12, "s1\t;");
        dueOfText(-12, "s1\n;");
        dueOfText(-11, "s\u0000;");
        dueOfText(-10, "\tw;");
        dueOfText(-12, "w;\n");
    }

    @Says(promise = 0, words = "needed only where figures of two numbers would else stand side by side")
    private static void blanksWhereTheyAreNeeded() {
        dueOfText(6, "t1 2 4 8 16;r0;s1;m1;w;c;");
        // without a blank the figures are those of one number
        dueOfText(-19, "t12 3 4 5;");
        dueOfText(-16, "t12 34567;");
        dueOfText(-13, "t00000;");
    }

    @Says(promise = 0, words = "THE TEXT is read whole first")
    private static void faultComesAheadOfARefusedOrder() {
        dueOfText(-13, "c;w");
        dueOfText(-12, "c;x");
        dueOfText(-15, "s64;r");
        dueOfText(-14, "s99;;");
        dueOfText(-160, "c;".repeat(74) + " c");
    }

    @Says(promise = 0, words = "an ORDER that its call would refuse then ends all, nothing is done")
    private static void eachOrderThatIsRefused() {
        dueOfText(-1001, "w;t64 0 0 0 0;");
        dueOfText(-1001, "w;t0 64 0 0 0;");
        dueOfText(-1001, "w;t0 0 64 0 0;");
        dueOfText(-1001, "w;t0 0 0 64 0;");
        dueOfText(-1001, "w;t0 0 0 0 64;");
        dueOfText(-1001, "w;t1 1 0 0 0;");
        dueOfText(-1001, "w;t0 0 1 1 0;");
        dueOfText(-1001, "w;t0 0 1 0 1;");
        dueOfText(-1001, "w;t0 0 0 1 1;");
        dueOfText(-1008, "t0 0 0 0 0;".repeat(9));
        dueOfText(-1001, "w;r0;");
        dueOfText(-1001, "t0 0 0 0 0;r1;");
        dueOfText(-1002, "t0 0 0 0 0;r0;r0;");
        dueOfText(-1001, "w;s64;");
        dueOfText(-1001, "w;m2;");
        dueOfText(-1001, "w;c;");
        dueOfText(-1002, "t0 0 0 0 0;c;c;");
    }

    @Says(promise = 0, words = "an ORDER that its call would refuse then ends all, nothing is done")
    private static void ordersGoByWhatTheOnesAheadDid() {
        dueOfText(3, "t0 0 0 0 0;r0;c;");
        dueOfText(4, "t0 0 0 0 0;r0;w;r0;");
        dueOfText(-1003, "t0 0 0 0 0;r0;c;r0;");
        due(10, typed("t0 0 0 0 0;".repeat(8) + "c;t0 0 0 0 0;").does());
    }

    @Says(promise = 0, words = "an ORDER that its call would refuse then ends all, nothing is done")
    private static void nothingIsDoneByWhatEndsAll() {
        SoiledTests x = typed(soiled(), "t1 0 0 0 0;r3;s5;m1;c;w;c;r2;");
        String before = stateOf(x);
        due(-1007, x.does());
        dueTrue(before.equals(stateOf(x)));
    }

    @Says(promise = 0, words = "the place of the first byte that can not stand there (a third figure)")
    private static void thirdFigure() {
        dueOfText(-13, "s123;");
        dueOfText(-13, "s000;");
        dueOfText(-13, "s007");
        dueOfText(-14, "s 100;");
        dueOfText(-13, "t100 0 0 0 0;");
        dueOfText(-21, "t0 0 0 0 000;");
        dueOfText(-17, "t0 0 000 0 0;");
    }

    @Says(promise = 0, words = "the place of the first byte that can not stand there (a third figure)")
    private static void theFirstOfSeveralFaults() {
        dueOfText(-10, "xx");
        dueOfText(-11, "sxw");
        dueOfText(-12, "s1w;x");
        dueOfText(-11, " ;;");
        dueOfText(-12, "w;1;;");
    }

    @Says(promise = 0, words = "the place of the first byte that can not stand there (a third figure)")
    private static void theLastByteOfAFullText() {
        dueOfText(-159, "w;".repeat(74) + "w1");
        dueOfText(-159, "w;".repeat(74) + " ;");
        dueOfText(-158, "w;".repeat(74) + "x");
    }

    @Says(promise = 0, words = "the TEXT's length, if it ends too early (one that is empty or has blanks alone, too)")
    private static void endsTooEarly() {
        dueOfText(-10, "");
        dueOfText(-11, " ");
        dueOfText(-13, "   ");
        dueOfText(-160, " ".repeat(150));
        dueOfText(-11, "s");
        dueOfText(-12, "s ");
        dueOfText(-12, "s1");
        dueOfText(-13, "s12");
        dueOfText(-14, "s12 ");
        dueOfText(-18, "t0 0 0 0");
        dueOfText(-160, "w;".repeat(74) + " w");
        dueOfText(-160, "w;".repeat(74) + "w ");
    }

    @Says(promise = 0, words = "If there is one, nothing is done")
    private static void nothingIsDoneByATextWithAFault() {
        for (String text : new String[] {"s5;m1;w;c;x", "s5;m1;w;c;t", "w;c;;", ""}) {
            SoiledTests x = typed(soiled(), text);
            String before = stateOf(x);
            dueTrue(x.does() <= -10);
            dueTrue(before.equals(stateOf(x)));
        }
    }

    @Says(promise = 0, words = "each call told S, if it is not refused, leaves one, also if nothing becomes other by it")
    private static void nothingBecomesOtherButAStateIsLeft() {
        leavesState(0, new SoiledTests(), x -> x.start(0));
        leavesState(0, new SoiledTests(), x -> x.mode(0));
        leavesState(0, new SoiledTests(), SoiledTests::wipes);
        leavesState(0, new SoiledTests(), x -> x.shuffles(0));
        leavesState(1, typed("w;"), SoiledTests::does);
        SoiledTests once = with(makes1(1), needs0(1));
        once.shuffles(shuffled(2, 0)[0] == 0 ? 0 : seedWhereZeroIsFirst());
        leavesState(0, once, x -> x.trims(1));
    }

    private static int seedWhereZeroIsFirst() {
        int seed = 0;
        while (shuffled(2, seed)[0] != 0) {
            seed++;
        }
        return seed;
    }

    @Says(promise = 0, words = "each call told S, if it is not refused, leaves one, also if nothing becomes other by it")
    private static void eachOfTheCallsToldS() {
        leavesState(0, new SoiledTests(), x -> x.test(1, 2, 4, 8, 16));
        leavesState(1, idle(2), SoiledTests::cuts);
        leavesState(1, idle(2), x -> x.lays(1));
        leavesState(1, laid(idle(2), 1), SoiledTests::wipes);
        leavesState(0, idle(2), x -> x.start(7));
        leavesState(0, idle(2), x -> x.mode(1));
        leavesState(2, idle(2), x -> x.shuffles(5));
        leavesState(2, typed(idle(2), "s5;m1;"), SoiledTests::does);
        SoiledTests y = laid(with(IDLE, makes1(1), needs0(1)), 0, 1, 2);
        due(5, y.told(4));
        due(1, y.trims(2));
        due(5, y.told(4));
        due(4, y.back());
        dueRow(y, 0, 1, 2);
    }

    @Says(promise = 0, words = "each call told S, if it is not refused, leaves one")
    private static void otherCallsLeaveNone() {
        SoiledTests x = with(makes1(1), needs0(1));
        laid(x, 0, 1);
        x.back();
        x.lays(1);
        int states = x.told(4);
        x.of(0, 0);
        x.soils(0, 1);
        x.cleans(0, 1);
        x.flips(0);
        x.seed(0, 1);
        x.at(0);
        x.inRow(0, 0);
        x.who(1, 0);
        x.left(1, 0);
        x.count(0);
        x.type('w');
        x.clear();
        x.does();
        x.digest();
        due(4, states);
        due(4, x.told(4));
    }

    @Says(promise = 0, words = "to go back to (all but THE TEXT and how often refused), 5 at most, older ones lost")
    private static void fiveStatesAtMost() {
        SoiledTests x = new SoiledTests();
        for (int n = 1; n <= 6; n++) {
            x.start(n);
            due(Math.min(n, 5), x.told(4));
        }
        for (int n = 5; n >= 1; n--) {
            due(n - 1, x.back());
            due(n, x.count(2));
        }
        due(NO, x.back());
        due(1, x.count(2));
    }

    @Says(promise = 0, words = "to go back to (all but THE TEXT and how often refused)")
    private static void textAndRefusalsStayWhenGoneBack() {
        SoiledTests x = new SoiledTests();
        x.start(9);
        typed(x, "w;");
        due(BAD, x.start(64));
        due(NO, x.cuts());
        due(0, x.back());
        due(2, x.told(3));
        due(1, x.told(0));
        due(1, x.told(1));
        due(1, x.does());
        x.clear();
        due(0, x.back());
        due(0, x.told(3));
        due(0, x.count(2));
    }

    @Says(promise = 0, words = "Refused (any call, getters, too), changing nothing but how often")
    private static void refusedCallLosesNoOldState() {
        SoiledTests x = new SoiledTests();
        for (int n = 1; n <= 5; n++) {
            x.start(n);
        }
        due(BAD, x.start(64));
        due(BAD, x.mode(2));
        due(NO, x.cuts());
        due(BAD, x.lays(0));
        typed(x, "s9;c;");
        due(-1001, x.does());
        x.type('x');
        due(-15, x.does());
        for (int n = 4; n >= 0; n--) {
            due(n, x.back());
            due(n, x.count(2));
        }
    }

    @Says(promise = 0, words = "Refused (any call, getters, too), changing nothing but how often")
    private static void refusedGettersAreCounted() {
        List<ToIntFunction<SoiledTests>> bad = List.of(x -> x.of(0, 6), x -> x.soils(0, 0), x -> x.cleans(0, 0), x -> x.flips(-1),
            x -> x.seed(-1, 0), x -> x.at(-1), x -> x.inRow(0, 5), x -> x.who(0, 6), x -> x.left(0, 3), x -> x.count(8),
            x -> x.told(5));
        SoiledTests all = soiled();
        for (int k = 0; k < bad.size(); k++) {
            refused(BAD, soiled(), bad.get(k));
            due(BAD, bad.get(k).applyAsInt(all));
            due(k + 1, all.told(0));
        }
    }

    @Says(promise = 0, words = "the first of: BAD -2 a number is not as told; NO -3, FULL -4 as told")
    private static void badComesAheadOfNo() {
        refused(BAD, soiled(), x -> x.inRow(2, 5));
        refused(BAD, soiled(), x -> x.inRow(2, -1));
        refused(BAD, soiled(), x -> x.who(2, 6));
        refused(BAD, soiled(), x -> x.who(2, -1));
        refused(BAD, soiled(), x -> x.left(2, 3));
        refused(BAD, soiled(), x -> x.left(2, -1));
        refused(BAD, soiled(), x -> x.left(0, 3));
        refused(BAD, soiled(), x -> x.cleans(2, 2));
    }

    @Says(promise = 0, words = "the first of: BAD -2 a number is not as told; NO -3, FULL -4 as told")
    private static void badComesAheadOfFull() {
        refused(BAD, idle(8), x -> x.test(64, 0, 0, 0, 0));
        refused(BAD, idle(8), x -> x.test(1, 1, 0, 0, 0));
        refused(BAD, idle(8), x -> x.test(0, 0, 1, 0, 1));
        refused(FULL, idle(8), x -> x.test(0, 0, 0, 0, 0));
        refused(BAD, typed(" ".repeat(150)), x -> x.type(128));
        refused(FULL, typed(" ".repeat(150)), x -> x.type(127));
    }

    @Says(promise = 0, words = "By does() nothing counts (by type() as by any call)")
    private static void nothingCountsByDoes() {
        for (String text : new String[] {"s64;", "c;", "t0 0 0 0 0;".repeat(9), "x", "", "w"}) {
            SoiledTests x = typed(text);
            dueTrue(x.does() < 0);
            for (int what = 0; what <= 2; what++) {
                due(0, x.told(what));
            }
        }
        SoiledTests y = typed(" ".repeat(150));
        y.type(-1);
        y.type('w');
        due(1, y.told(0));
        due(1, y.told(2));
    }

    // ---- the promises

    @Says(promise = 1, words = "As told; no TESTS.")
    private static void nothingIsThereAtFirst() {
        SoiledTests x = new SoiledTests();
        for (int what = 0; what <= 7; what++) {
            due(0, x.count(what));
        }
        for (int what = 0; what <= 4; what++) {
            due(0, x.told(what));
        }
        due(NONE, x.at(0));
        due(BAD, x.of(0, 0));
        due(BAD, x.lays(0));
        due(NO, x.cuts());
        due(NO, x.back());
        due(0, x.flips(0));
    }

    @Says(promise = 1, words = "As told; no TESTS.")
    private static void objectsShareNothing() {
        SoiledTests x = new SoiledTests();
        SoiledTests y = new SoiledTests();
        laid(with(turns(63)), 0);
        adds(x, turns(63));
        x.start(5);
        x.mode(1);
        x.type('w');
        x.at(-1);
        due(new SoiledTests().digest(), y.digest());
    }

    @Says(promise = 2, words = "(bits, 0 .. 63 each)")
    private static void bitsAtBothEnds() {
        for (int place = 0; place < 5; place++) {
            SoiledTests x = new SoiledTests();
            due(0, adds(x, IDLE));
            int[] most = new int[5];
            most[place] = 63;
            due(1, adds(x, most));
            due(63, x.of(1, place));
        }
    }

    @Says(promise = 2, words = "(bits, 0 .. 63 each)")
    private static void bitsBeyondTheEnds() {
        for (int place = 0; place < 5; place++) {
            for (int n : new int[] {-1, -64, LOWEST, 64, 65, 128, HIGHEST}) {
                int[] beyond = new int[5];
                beyond[place] = n;
                refused(BAD, idle(1), x -> adds(x, beyond));
            }
        }
    }

    @Says(promise = 2, words = "BAD: a and b, or two of c, d, e have one CELL, too")
    private static void oneCellInTwo() {
        int[][] pairs = {{0, 1}, {2, 3}, {2, 4}, {3, 4}};
        for (int[] pair : pairs) {
            for (int cell = 0; cell <= 5; cell++) {
                int[] told = new int[5];
                told[pair[0]] = 1 << cell;
                told[pair[1]] = 63;
                refused(BAD, new SoiledTests(), x -> adds(x, told));
                told[pair[0]] = 63;
                told[pair[1]] = 1 << cell;
                refused(BAD, new SoiledTests(), x -> adds(x, told));
                told[pair[0]] = 63 ^ 1 << cell;
                due(0, adds(new SoiledTests(), told));
            }
        }
        refused(BAD, new SoiledTests(), x -> x.test(0, 0, 4, 4, 4));
    }

    @Says(promise = 2, words = "FULL: 8.")
    private static void fullAtEight() {
        refused(FULL, idle(8), x -> adds(x, IDLE));
        SoiledTests x = idle(7);
        due(7, adds(x, IDLE));
        due(FULL, adds(x, IDLE));
        due(7, x.cuts());
        due(7, adds(x, turns(1)));
        due(1, x.of(7, 4));
        due(FULL, adds(x, IDLE));
        due(2, x.told(2));
    }

    @Says(promise = 3, words = "The last TEST goes (from THE ROW, too): how many are left.")
    private static void cutFromEachPlaceOfTheRow() {
        int[][] rows = {{2, 0, 1}, {0, 2, 1}, {0, 1, 2}, {0, 1}};
        for (int[] row : rows) {
            SoiledTests x = laid(idle(3), row);
            due(2, x.cuts());
            dueRow(x, 0, 1);
            due(BAD, x.lays(2));
        }
    }

    @Says(promise = 3, words = "The last TEST goes (from THE ROW, too): how many are left.")
    private static void cutsAllOfEight() {
        SoiledTests x = idle(8);
        x.shuffles(1);
        for (int left = 7; left >= 0; left--) {
            due(left, x.cuts());
            due(left, x.count(1));
        }
        due(0, x.count(0));
    }

    @Says(promise = 3, words = "The last TEST goes (from THE ROW, too): how many are left.")
    private static void theNextOneTakesItsNumberAnew() {
        SoiledTests x = laid(with(IDLE, t(1, 2, 4, 8, 16)), 1);
        due(1, x.cuts());
        due(1, adds(x, IDLE));
        for (int what = 0; what <= 4; what++) {
            due(0, x.of(1, what));
        }
        dueRow(x);
        due(1, x.lays(1));
    }

    @Says(promise = 3, words = "The last TEST goes (from THE ROW, too): how many are left.")
    private static void theOneThatWentSoilsAndCleansNoMore() {
        SoiledTests x = with(needs0(1), makes1(1), makes0(1), makes1(1));
        due(2, x.count(7));
        due(4, x.cleans(1, 0));
        x.cuts();
        due(1, x.count(7));
        x.cuts();
        due(0, x.cleans(1, 0));
        x.cuts();
        due(0, x.count(7));
        due(0, x.flips(0));
        SoiledTests y = with(makes1(1), needs0(1));
        y.cuts();
        due(0, y.count(7));
    }

    @Says(promise = 3, words = "NO: there is none.")
    private static void nothingToCut() {
        refused(NO, new SoiledTests(), SoiledTests::cuts);
        SoiledTests x = idle(1);
        due(0, x.cuts());
        refused(NO, x, SoiledTests::cuts);
    }

    @Says(promise = 4, words = "TEST t is laid behind THE ROW: how many it has. S. BAD")
    private static void laysNumbersBeyondTheEnds() {
        for (int t : new int[] {-1, LOWEST, 2, 3, 8, HIGHEST}) {
            refused(BAD, laid(idle(2), 1), x -> x.lays(t));
        }
        refused(BAD, new SoiledTests(), x -> x.lays(0));
        refused(BAD, idle(8), x -> x.lays(8));
    }

    @Says(promise = 4, words = "TEST t is laid behind THE ROW: how many it has.")
    private static void laysAllEight() {
        SoiledTests x = idle(8);
        for (int k = 0; k < 8; k++) {
            due(k + 1, x.lays(7 - k));
        }
        dueRow(x, 7, 6, 5, 4, 3, 2, 1, 0);
    }

    @Says(promise = 4, words = "NO: it is in it.")
    private static void laidIsNotLaidAgain() {
        for (int t = 0; t < 3; t++) {
            int again = t;
            refused(NO, laid(idle(4), 2, 0, 1), x -> x.lays(again));
        }
        SoiledTests x = laid(idle(2), 0);
        due(NO, x.lays(0));
        x.wipes();
        due(1, x.lays(0));
        x.back();
        due(1, x.lays(0));
    }

    @Says(promise = 5, words = "THE ROW is empty: how many it had. S.")
    private static void wipesNoneAndEight() {
        SoiledTests x = new SoiledTests();
        due(0, x.wipes());
        due(1, x.told(4));
        SoiledTests y = idle(8);
        due(0, y.wipes());
        y.shuffles(1);
        due(8, y.wipes());
        dueRow(y);
        due(0, y.wipes());
        due(8, y.count(0));
    }

    @Says(promise = 6, words = "START becomes n: what it was. S. BAD.")
    private static void startAtBothEndsAndBeyond() {
        SoiledTests x = new SoiledTests();
        due(0, x.start(63));
        due(63, x.start(0));
        due(0, x.start(0));
        due(0, x.count(2));
        for (int n : new int[] {-1, LOWEST, 64, 65, 127, HIGHEST}) {
            refused(BAD, new SoiledTests(), y -> y.start(n));
        }
    }

    @Says(promise = 7, words = "MODE becomes n: what it was. S. BAD.")
    private static void modeAtBothEndsAndBeyond() {
        SoiledTests x = new SoiledTests();
        due(0, x.mode(1));
        due(1, x.mode(1));
        due(1, x.mode(0));
        due(0, x.mode(0));
        for (int n : new int[] {-1, LOWEST, 2, 3, HIGHEST}) {
            refused(BAD, new SoiledTests(), y -> y.mode(n));
        }
    }

    @Says(promise = 8, words = "THE ROW becomes as SHUFFLED by a SEED: how many it has. S. BAD.")
    private static void shufflesBySeedsAtBothEndsAndBeyond() {
        SoiledTests x = laid(idle(8), 3);
        due(8, x.shuffles(0));
        dueRow(x, shuffled(8, 0));
        due(8, x.shuffles(999999));
        dueRow(x, shuffled(8, 999999));
        for (int seed : new int[] {-1, LOWEST, 1000000, HIGHEST}) {
            refused(BAD, laid(idle(3), 1), y -> y.shuffles(seed));
        }
    }

    @Says(promise = 8, words = "THE ROW becomes as SHUFFLED by a SEED: how many it has.")
    private static void shufflesNone() {
        SoiledTests x = new SoiledTests();
        due(0, x.shuffles(999999));
        dueRow(x);
        due(1, x.told(4));
        refused(BAD, new SoiledTests(), y -> y.shuffles(-1));
    }

    @Says(promise = 9, words = "What is ahead of TEST v in THE ROW becomes LEAST of it (what is behind it stays): how many went. S. BAD")
    private static void trimsNumbersBeyondTheEnds() {
        for (int v : new int[] {-1, LOWEST, 3, 8, HIGHEST}) {
            refused(BAD, soiled(), x -> x.trims(v));
        }
        refused(BAD, new SoiledTests(), x -> x.trims(0));
    }

    @Says(promise = 9, words = "What is ahead of TEST v in THE ROW becomes LEAST of it (what is behind it stays): how many went.")
    private static void trimsNoneAndSix() {
        SoiledTests x = with(IDLE, IDLE, makes1(1), needs0(1), IDLE, IDLE, IDLE, IDLE);
        laid(x, 0, 1, 2, 4, 5, 6, 7, 3);
        due(6, x.trims(3));
        dueRow(x, 2, 3);
        due(0, x.trims(3));
        dueRow(x, 2, 3);
    }

    @Says(promise = 9, words = "(what is behind it stays)")
    private static void trimsLeavesWhatIsBehind() {
        SoiledTests x = with(IDLE, makes1(1), needs0(1), IDLE, IDLE);
        laid(x, 0, 1, 2, 4, 3);
        due(1, x.trims(2));
        dueRow(x, 1, 2, 4, 3);
    }

    @Says(promise = 9, words = "NO: it is not in THE ROW, not FLIPPED there.")
    private static void trimsWhatIsNotThereOrNotFlipped() {
        refused(NO, soiled(), x -> x.trims(2));
        refused(NO, soiled(), x -> x.trims(0));
        refused(NO, laid(with(makes1(1), needs0(1)), 1, 0), x -> x.trims(1));
        refused(NO, laid(with(makes1(2), needs0(1)), 0, 1), x -> x.trims(1));
        refused(NO, laid(with(makes1(2), needs1(1)), 0, 1), x -> x.trims(1));
        refused(NO, with(makes1(1), needs0(1)), x -> x.trims(1));
    }

    @Says(promise = 10, words = "a to e as it was told (what 0 to 4), ALONE (5: 1, 0). BAD.")
    private static void ofEachPartAndBeyond() {
        SoiledTests x = with(t(1, 2, 4, 8, 16), t(2, 1, 16, 8, 4));
        for (int what = 0; what <= 4; what++) {
            due(1 << what, x.of(0, what));
        }
        due(0, x.of(0, 5));
        x.start(2);
        due(1, x.of(0, 5));
        due(0, x.of(1, 5));
        for (int what : new int[] {-1, LOWEST, 6, HIGHEST}) {
            refused(BAD, idle(2), y -> y.of(1, what));
        }
    }

    @Says(promise = 10, words = "a to e as it was told (what 0 to 4), ALONE (5: 1, 0). BAD.")
    private static void ofNumbersBeyondTheEnds() {
        for (int t : new int[] {-1, LOWEST, 2, 8, HIGHEST}) {
            refused(BAD, idle(2), x -> x.of(t, 0));
            refused(BAD, idle(2), x -> x.of(t, 5));
        }
        refused(BAD, new SoiledTests(), x -> x.of(0, 0));
    }

    @Says(promise = 11, words = "p SOILS v: 1, 0. BAD: alike, too.")
    private static void soilsAlike() {
        // 0 behind itself would fail
        refused(BAD, with(t(1, 0, 0, 1, 0), IDLE), x -> x.soils(0, 0));
        refused(BAD, idle(8), x -> x.soils(7, 7));
    }

    @Says(promise = 11, words = "p SOILS v: 1, 0. BAD: alike, too.")
    private static void soilsNumbersBeyondTheEnds() {
        for (int t : new int[] {-1, LOWEST, 3, 8, HIGHEST}) {
            refused(BAD, soiled(), x -> x.soils(t, 0));
            refused(BAD, soiled(), x -> x.soils(0, t));
            refused(BAD, soiled(), x -> x.soils(t, t));
        }
    }

    @Says(promise = 12, words = "TESTS that CLEAN p for v, as bits. BAD: alike, too")
    private static void cleansAlike() {
        refused(BAD, with(t(1, 0, 0, 1, 0), IDLE), x -> x.cleans(0, 0));
        refused(BAD, soiled(), x -> x.cleans(1, 1));
    }

    @Says(promise = 12, words = "TESTS that CLEAN p for v, as bits. BAD: alike, too")
    private static void cleansNumbersBeyondTheEnds() {
        for (int t : new int[] {-1, LOWEST, 3, 8, HIGHEST}) {
            refused(BAD, soiled(), x -> x.cleans(t, 1));
            refused(BAD, soiled(), x -> x.cleans(0, t));
        }
    }

    @Says(promise = 12, words = "TESTS that CLEAN p for v, as bits.")
    private static void cleansNoneAndSix() {
        due(0, with(makes1(1), needs0(1)).cleans(0, 1));
        due(0, with(makes1(1), needs0(1), IDLE).cleans(0, 1));
        int[] clean = makes0(1);
        due(126, with(needs0(1), clean, clean, clean, clean, clean, clean, makes1(1)).cleans(7, 0));
        due(252, with(needs0(1), makes1(1), clean, clean, clean, clean, clean, clean).cleans(1, 0));
        due(63, with(clean, clean, clean, clean, clean, clean, makes1(1), needs0(1)).cleans(6, 7));
    }

    @Says(promise = 12, words = "NO: p does not SOIL v.")
    private static void cleansWhereNothingIsSoiled() {
        refused(NO, soiled(), x -> x.cleans(2, 1));
        refused(NO, soiled(), x -> x.cleans(1, 0));
        refused(NO, idle(2), x -> x.cleans(0, 1));
    }

    @Says(promise = 13, words = "TESTS that are FLIPPED in the row SHUFFLED by a SEED, as bits. BAD.")
    private static void flipsBySeedsAtBothEndsAndBeyond() {
        for (int seed : new int[] {0, 999999}) {
            int[] row = shuffled(8, seed);
            int[][] all = new int[8][];
            for (int k = 0; k < 8; k++) {
                all[row[k]] = k == 0 ? makes1(1) : k == 1 || k == 7 ? needs0(1) : k == 2 ? needs1(1) : IDLE;
            }
            due(1 << row[1] | 1 << row[2] | 1 << row[7], with(all).flips(seed));
        }
        for (int seed : new int[] {-1, LOWEST, 1000000, HIGHEST}) {
            refused(BAD, soiled(), x -> x.flips(seed));
        }
    }

    @Says(promise = 13, words = "TESTS that are FLIPPED in the row SHUFFLED by a SEED, as bits.")
    private static void flipsOfNoneAndOneAndOfTestsNotLaid() {
        due(0, new SoiledTests().flips(3));
        due(0, with(needs1(1)).flips(3));
        int seed = seedWhereZeroIsFirst();
        SoiledTests x = with(makes1(1), needs0(1));
        due(2, x.flips(seed));
        laid(x, 1, 0);
        due(2, x.flips(seed));
        dueRow(x, 1, 0);
    }

    @Says(promise = 14, words = "The first SEED from s on (of 200, 999999 at most) by which TEST v is FLIPPED; NONE. BAD.")
    private static void seedBeyondTheEnds() {
        for (int s : new int[] {-1, LOWEST, 1000000, HIGHEST}) {
            refused(BAD, soiled(), x -> x.seed(s, 1));
        }
        for (int v : new int[] {-1, LOWEST, 3, 8, HIGHEST}) {
            refused(BAD, soiled(), x -> x.seed(0, v));
        }
        refused(BAD, new SoiledTests(), x -> x.seed(0, 0));
    }

    @Says(promise = 14, words = "The first SEED from s on (of 200, 999999 at most) by which TEST v is FLIPPED")
    private static void seedTwoHundredAreTried() {
        // 6 is flipped only if 0 to 5 lie ahead of it in their order
        SoiledTests x = with(makes1(1), t(0, 1, 0, 2, 0), t(0, 2, 0, 4, 0), t(0, 4, 0, 8, 0), t(0, 8, 0, 16, 0),
            t(0, 16, 0, 32, 0), needs1(32), IDLE);
        int found = seedThatRises(0);
        int before = 0;
        while (found - before <= 200) {
            before = found;
            found = seedThatRises(found + 1);
        }
        due(found, x.seed(found, 6));
        due(found, x.seed(found - 199, 6));
        due(NONE, x.seed(found - 200, 6));
    }

    private static int seedThatRises(int from) {
        int seed = from;
        while (!rises(shuffled(8, seed))) {
            seed++;
        }
        return seed;
    }

    private static boolean rises(int[] row) {
        int next = 0;
        for (int t : row) {
            next += t == next ? 1 : 0;
        }
        return next >= 7;
    }

    @Says(promise = 14, words = "(of 200, 999999 at most)")
    private static void seedEndsAtTheLast() {
        int[] last = shuffled(8, 999999);
        due(999999, soiling(last[0], last[1]).seed(999999, last[1]));
        // v is not flipped by the last one, but would be by the number behind it, and by 0
        int tried = 0;
        for (int p = 0; p < 8; p++) {
            for (int v = 0; v < 8; v++) {
                if (isAhead(v, p, 999999) && isAhead(p, v, 1000000) && isAhead(p, v, 0)) {
                    due(NONE, soiling(p, v).seed(999999, v));
                    tried++;
                }
            }
        }
        dueTrue(tried > 0);
    }

    private static boolean isAhead(int p, int v, int seed) {
        int[] row = shuffled(8, seed);
        return placeIn(row, p) < placeIn(row, v);
    }

    /** Of eight tests p makes cell 0 1 and v needs it to be 0. */
    private static SoiledTests soiling(int p, int v) {
        int[][] all = new int[8][];
        for (int k = 0; k < 8; k++) {
            all[k] = k == p ? makes1(1) : k == v ? needs0(1) : IDLE;
        }
        return with(all);
    }

    @Says(promise = 14, words = "by which TEST v is FLIPPED; NONE.")
    private static void seedOfOneThatIsNeverFlipped() {
        due(NONE, idle(1).seed(0, 0));
        due(NONE, soiled().seed(0, 0));
        due(NONE, soiled().seed(999999, 0));
        due(NONE, soiled().seed(999800, 2));
    }

    @Says(promise = 15, words = "The k-th TEST of THE ROW (0 on); NONE: not so many. BAD: k below 0, too.")
    private static void atEachPlaceAndBeyond() {
        SoiledTests x = new SoiledTests();
        due(NONE, x.at(0));
        x = laid(idle(3), 2, 0);
        due(2, x.at(0));
        due(0, x.at(1));
        due(NONE, x.at(2));
        due(NONE, x.at(3));
        due(NONE, x.at(8));
        due(NONE, x.at(HIGHEST));
        due(0, x.told(0));
        refused(BAD, laid(idle(3), 2, 0), y -> y.at(-1));
        refused(BAD, new SoiledTests(), y -> y.at(LOWEST));
    }

    @Says(promise = 15, words = "The k-th TEST of THE ROW (0 on); NONE: not so many.")
    private static void atTheEndOfAFullRow() {
        SoiledTests x = laid(idle(8), 7, 6, 5, 4, 3, 2, 1, 0);
        due(0, x.at(7));
        due(NONE, x.at(8));
        x.wipes();
        due(NONE, x.at(0));
        due(NONE, x.at(7));
    }

    @Says(promise = 16, words = "whether it PASSES (1: 1, 0), FLIPPED (2: 1, 0), WRONG CELLS (3), CELLS behind it (4). BAD")
    private static void inRowBeyondTheEnds() {
        for (int what : new int[] {-1, LOWEST, 5, HIGHEST}) {
            refused(BAD, soiled(), x -> x.inRow(1, what));
        }
        for (int t : new int[] {-1, LOWEST, 3, 8, HIGHEST}) {
            refused(BAD, soiled(), x -> x.inRow(t, 0));
        }
        refused(BAD, new SoiledTests(), x -> x.inRow(0, 0));
    }

    @Says(promise = 16, words = "Of TEST t in THE ROW: its place (what 0)")
    private static void inRowFirstAndLastOfEight() {
        SoiledTests x = laid(idle(8), 7, 6, 5, 4, 3, 2, 1, 0);
        due(0, x.inRow(7, 0));
        due(7, x.inRow(0, 0));
    }

    @Says(promise = 16, words = "CELLS behind it (4)")
    private static void cellsBehindTheFirstAndTheLast() {
        SoiledTests x = laid(with(turns(1), turns(2), turns(4)), 2, 0, 1);
        x.start(32);
        due(36, x.inRow(2, 4));
        due(37, x.inRow(0, 4));
        due(39, x.inRow(1, 4));
    }

    @Says(promise = 16, words = "NO: it is not in THE ROW.")
    private static void inRowOfOneNotLaid() {
        for (int what = 0; what <= 4; what++) {
            int which = what;
            refused(NO, soiled(), x -> x.inRow(2, which));
        }
        refused(NO, idle(1), x -> x.inRow(0, 0));
    }

    @Says(promise = 17, words = "WHO of a CELL for TEST t in THE ROW. BAD")
    private static void whoBeyondTheEnds() {
        for (int cell : new int[] {-1, LOWEST, 6, 7, 32, 64, HIGHEST}) {
            refused(BAD, soiled(), x -> x.who(1, cell));
        }
        for (int t : new int[] {-1, LOWEST, 3, 8, HIGHEST}) {
            refused(BAD, soiled(), x -> x.who(t, 0));
        }
        refused(BAD, new SoiledTests(), x -> x.who(0, 0));
    }

    @Says(promise = 17, words = "WHO of a CELL for TEST t in THE ROW.")
    private static void whoOfTheFirstAndTheLastCell() {
        SoiledTests x = laid(with(IDLE, makes1(33), IDLE), 0, 1, 2);
        due(1, x.who(2, 0));
        due(1, x.who(2, 5));
        due(NONE, x.who(2, 1));
        due(NONE, x.who(2, 4));
        due(NONE, x.who(1, 0));
        due(0, x.told(0));
    }

    @Says(promise = 17, words = "NO: it is not in THE ROW.")
    private static void whoForOneNotLaid() {
        refused(NO, soiled(), x -> x.who(2, 0));
        refused(NO, idle(1), x -> x.who(0, 5));
    }

    @Says(promise = 18, words = "Of TEST v: LEAST (how 0), FEWEST (1), what HALVES leave (2): as bits. BAD")
    private static void leftBeyondTheEnds() {
        for (int how : new int[] {-1, LOWEST, 3, HIGHEST}) {
            refused(BAD, soiled(), x -> x.left(1, how));
        }
        for (int v : new int[] {-1, LOWEST, 3, 8, HIGHEST}) {
            refused(BAD, soiled(), x -> x.left(v, 0));
        }
        refused(BAD, new SoiledTests(), x -> x.left(0, 0));
    }

    @Says(promise = 18, words = "Of TEST v: LEAST (how 0), FEWEST (1), what HALVES leave (2): as bits.")
    private static void leftChangesNothing() {
        SoiledTests x = laid(with(IDLE, turns(1), turns(1), makes1(1), needs0(1)), 0, 3, 1, 2, 4);
        String before = stateOf(x);
        due(14, x.left(4, 0));
        due(2, x.left(4, 1));
        due(8, x.left(4, 2));
        dueTrue(before.equals(stateOf(x)));
    }

    @Says(promise = 18, words = "NO: it is not in THE ROW, not FLIPPED there.")
    private static void leftOfOneNotThereOrNotFlipped() {
        for (int how = 0; how <= 2; how++) {
            int which = how;
            refused(NO, soiled(), x -> x.left(2, which));
            refused(NO, soiled(), x -> x.left(0, which));
            refused(NO, laid(with(makes1(2), needs0(1)), 0, 1), x -> x.left(1, which));
            refused(NO, idle(1), x -> x.left(0, which));
        }
    }

    @Says(promise = 19, words = "pairs p, v of which p SOILS v (7). BAD.")
    private static void countBeyondTheEnds() {
        for (int what : new int[] {-1, LOWEST, 8, 9, HIGHEST}) {
            refused(BAD, soiled(), x -> x.count(what));
        }
    }

    @Says(promise = 19, words = "TESTS (what 0), those in THE ROW (1)")
    private static void countsNoneAndEight() {
        SoiledTests x = idle(8);
        due(8, x.count(0));
        due(0, x.count(1));
        x.shuffles(0);
        due(8, x.count(1));
        due(8, x.count(5));
    }

    @Says(promise = 19, words = "CELLS behind THE ROW (4), how many PASS in it (5), are FLIPPED (6)")
    private static void countsOfAnEmptyRow() {
        SoiledTests x = with(makes1(1), needs0(1));
        x.start(62);
        due(62, x.count(4));
        due(0, x.count(5));
        due(0, x.count(6));
        due(1, x.count(7));
    }

    @Says(promise = 19, words = "how many PASS in it (5), are FLIPPED (6)")
    private static void countsAllButTheFirstFlipped() {
        int[] v = needs0(1);
        SoiledTests x = laid(with(v, v, v, v, v, v, v, makes1(1)), 7, 0, 1, 2, 3, 4, 5, 6);
        due(1, x.count(5));
        due(7, x.count(6));
        due(7, x.count(7));
    }

    @Says(promise = 19, words = "pairs p, v of which p SOILS v (7)")
    private static void countsAllPairs() {
        int[] each = t(1, 0, 0, 1, 0);
        due(56, with(each, each, each, each, each, each, each, each).count(7));
        due(2, with(each, each).count(7));
        due(0, with(each).count(7));
    }

    @Says(promise = 20, words = "A byte (0 .. 127) comes behind THE TEXT: how many it has. BAD")
    private static void typesBytesAtBothEndsAndBeyond() {
        SoiledTests x = new SoiledTests();
        due(1, x.type(0));
        due(2, x.type(127));
        for (int c : new int[] {-1, LOWEST, 128, 255, 256 + 'w', HIGHEST}) {
            refused(BAD, typed("w"), y -> y.type(c));
        }
    }

    @Says(promise = 20, words = "FULL: 150.")
    private static void typesAHundredAndFifty() {
        SoiledTests x = new SoiledTests();
        for (int k = 1; k <= 150; k++) {
            due(k, x.type(' '));
        }
        refused(FULL, x, y -> y.type(' '));
        due(150, x.clear());
        due(1, x.type(' '));
    }

    @Says(promise = 20, words = "FULL: 150.")
    private static void refusedBytesDoNotComeBehind() {
        SoiledTests x = typed("w;".repeat(74) + " w");
        due(FULL, x.type(';'));
        due(-160, x.does());
        SoiledTests y = typed("w");
        due(BAD, y.type(128 + ';'));
        due(2, y.type(';'));
        due(1, y.does());
    }

    @Says(promise = 21, words = "THE TEXT is empty: how many it had.")
    private static void clearsNoneOneAndAll() {
        SoiledTests x = new SoiledTests();
        due(0, x.clear());
        due(1, typed(x, "x").clear());
        due(0, x.clear());
        due(150, typed(x, "x".repeat(150)).clear());
        due(0, x.told(3));
        due(0, x.told(4));
        due(-10, x.does());
        due(1, typed(x, "w;").does());
    }

    @Says(promise = 22, words = "ORDERS are done (THE TEXT stays): how many.")
    private static void doesAgain() {
        SoiledTests x = typed("t0 0 0 0 1;t0 0 0 0 2;");
        for (int k = 1; k <= 4; k++) {
            due(2, x.does());
            due(2 * k, x.count(0));
        }
        due(-1000, x.does());
        due(22, x.told(3));
        due(1, x.of(6, 4));
        due(2, x.of(7, 4));
    }

    @Says(promise = 22, words = "S (one STATE for all).")
    private static void oneStateForAll() {
        SoiledTests x = typed("s1;s2;s3;s4;s5;s6;s7;");
        due(7, x.does());
        due(1, x.told(4));
        due(7, x.count(2));
        due(0, x.back());
        due(0, x.count(2));
        due(NO, x.back());
    }

    @Says(promise = 22, words = "S (one STATE for all).")
    private static void theSixthStateByDoes() {
        SoiledTests x = typed("s9;m1;");
        for (int n = 1; n <= 5; n++) {
            x.start(n);
        }
        due(2, x.does());
        due(5, x.told(4));
        for (int n = 5; n >= 1; n--) {
            due(n - 1, x.back());
            due(n, x.count(2));
            due(0, x.count(3));
        }
    }

    @Says(promise = 22, words = "-10 less the FAULT (no S)")
    private static void faultsAtBothEnds() {
        for (String text : new String[] {"", "x", " ".repeat(150), "w;".repeat(74) + "wx"}) {
            SoiledTests x = typed(text);
            due(text.length() == 150 ? text.isBlank() ? -160 : -159 : -10, x.does());
            due(0, x.told(4));
            due(text.length(), x.told(3));
        }
    }

    @Says(promise = 22, words = "-1000 less the number (0 on) of the ORDER that ends all (no S)")
    private static void theFirstAndTheLastOrderEndsAll() {
        for (int number : new int[] {0, 1, 74}) {
            SoiledTests x = typed("w;".repeat(number) + "c;" + "w;".repeat(74 - number));
            due(-1000 - number, x.does());
            due(0, x.told(4));
            due(150, x.told(3));
        }
        dueOfText(-1001, "w;c;c;");
    }

    @Says(promise = 23, words = "A STATE back: how many can be yet. NO: none.")
    private static void backFromNone() {
        refused(NO, new SoiledTests(), SoiledTests::back);
        SoiledTests x = idle(1);
        due(0, x.back());
        refused(NO, x, SoiledTests::back);
        refused(NO, x, SoiledTests::back);
        due(2, x.told(1));
    }

    @Says(promise = 23, words = "A STATE back: how many can be yet.")
    private static void backAndOnAgain() {
        SoiledTests x = new SoiledTests();
        for (int n = 1; n <= 5; n++) {
            x.start(n);
        }
        due(4, x.back());
        due(3, x.back());
        due(3, x.start(20));
        due(20, x.start(21));
        due(21, x.start(22));
        due(5, x.told(4));
        int[] ahead = {21, 20, 3, 2, 1};
        for (int k = 0; k < 5; k++) {
            due(4 - k, x.back());
            due(ahead[k], x.count(2));
        }
        due(NO, x.back());
    }

    @Says(promise = 23, words = "A STATE back: how many can be yet.")
    private static void backManyTimesAround() {
        SoiledTests x = new SoiledTests();
        for (int n = 0; n < 40; n++) {
            due(0, x.start(17));
            due(17, x.start(n));
            due(1, x.back());
            due(0, x.back());
            due(0, x.count(2));
        }
        due(NO, x.back());
    }

    @Says(promise = 23, words = "A STATE back: how many can be yet.")
    private static void backBringsACutTestAndItsPlace() {
        SoiledTests x = laid(with(IDLE, t(1, 2, 4, 8, 16)), 1, 0);
        due(1, x.cuts());
        due(1, adds(x, turns(63)));
        x.back();
        x.back();
        dueRow(x, 1, 0);
        for (int what = 0; what <= 4; what++) {
            due(1 << what, x.of(1, what));
        }
    }

    @Says(promise = 23, words = "A STATE back: how many can be yet.")
    private static void backBringsAllOfEightTests() {
        SoiledTests x = new SoiledTests();
        for (int k = 0; k < 8; k++) {
            x.test(k, 63 ^ k, k, 56, 7 ^ k);
        }
        x.shuffles(1);
        due(7, x.cuts());
        due(7, adds(x, IDLE));
        due(7, x.wipes());
        due(4, x.back());
        due(3, x.back());
        due(2, x.back());
        for (int k = 0; k < 8; k++) {
            int[] told = {k, 63 ^ k, k, 56, 7 ^ k};
            for (int what = 0; what <= 4; what++) {
                due(told[what], x.of(k, what));
            }
        }
        dueRow(x, 1, 7, 2, 5, 0, 3, 4, 6);
    }

    @Says(promise = 24, words = "bytes of THE TEXT (3), STATES (4). BAD.")
    private static void toldBeyondTheEnds() {
        for (int what : new int[] {-1, LOWEST, 5, 6, HIGHEST}) {
            refused(BAD, soiled(), x -> x.told(what));
        }
    }

    @Says(promise = 24, words = "How often refused: BAD (0), NO (1), FULL (2)")
    private static void eachRefusalIsCountedForItself() {
        SoiledTests x = idle(8);
        x.lays(-1);
        x.told(7);
        x.told(-7);
        x.lays(0);
        x.lays(0);
        x.lays(0);
        adds(x, IDLE);
        due(3, x.told(0));
        due(2, x.told(1));
        due(1, x.told(2));
    }

    @Says(promise = 25, words = "h = 18056; then h = 31 h + v for each v")
    private static void digestOfANewObject() {
        long h = 18056;
        for (int k = 0; k < 5 + 8 + 3; k++) {
            h *= 31;
        }
        due(h, new SoiledTests().digest());
    }

    @Says(promise = 25, words = "h = 18056; then h = 31 h + v for each v")
    private static void digestOfAFullObjectWrapsAround() {
        SoiledTests x = with(t(1, 2, 4, 8, 16), makes1(1), needs0(1), needs1(1), turns(63), makes0(63), needs0(32), t(0, 63, 1, 2, 4));
        x.shuffles(4);
        x.mode(1);
        x.start(21);
        typed(x, "w;");
        x.at(-1);
        x.lays(0);
        x.lays(1);
        adds(x, IDLE);
        adds(x, IDLE);
        adds(x, IDLE);
        dueDigest(x);
    }

    @Says(promise = 25, words = "of each TEST of(0) to of(5); of those in THE ROW, as they lie, the number, inRow(1) to inRow(4)")
    private static void digestOfAnEmptyRowAndOfSome() {
        SoiledTests x = with(t(1, 2, 4, 8, 16), makes1(1), needs0(1), needs1(1));
        dueDigest(x);
        laid(x, 3, 1, 2);
        dueDigest(x);
        x.mode(1);
        dueDigest(x);
    }

    @Says(promise = 25, words = "of each TEST of(0) to of(5); of those in THE ROW, as they lie, the number, inRow(1) to inRow(4)")
    private static void digestCountsAndChangesNothing() {
        SoiledTests x = soiled();
        String before = stateOf(x);
        x.digest();
        dueTrue(before.equals(stateOf(x)));
        for (int what = 0; what <= 2; what++) {
            due(0, x.told(what));
        }
    }

    private static void dueDigest(SoiledTests x) {
        java.math.BigInteger h = java.math.BigInteger.valueOf(18056);
        for (int v : valuesOfDigest(x)) {
            h = h.multiply(java.math.BigInteger.valueOf(31)).add(java.math.BigInteger.valueOf(v));
        }
        due(h.longValue(), x.digest());
        due(h.longValue(), x.digest());
    }

    private static List<Integer> valuesOfDigest(SoiledTests x) {
        List<Integer> all = new ArrayList<>();
        for (int what = 0; what <= 4; what++) {
            all.add(x.told(what));
        }
        for (int what = 0; what <= 7; what++) {
            all.add(x.count(what));
        }
        for (int t = 0; t < x.count(0); t++) {
            for (int what = 0; what <= 5; what++) {
                all.add(x.of(t, what));
            }
        }
        for (int k = 0; k < x.count(1); k++) {
            int t = x.at(k);
            all.add(t);
            for (int what = 1; what <= 4; what++) {
                all.add(x.inRow(t, what));
            }
        }
        for (int seed = 1; seed <= 3; seed++) {
            all.add(x.flips(seed));
        }
        return all;
    }

    // ---- all of them

    private static List<Method> tests() {
        List<Method> tests = new ArrayList<>();
        for (Method m : BoundariesTest.class.getDeclaredMethods()) {
            if (m.isAnnotationPresent(Says.class)) {
                tests.add(m);
            }
        }
        tests.sort(Comparator.comparing((Method m) -> m.getAnnotation(Says.class).promise()).thenComparing(Method::getName));
        return tests;
    }

    /** A sentence that the document no longer has must be read again, so its test does not pass. */
    private static void wordsStandInTheDocument(List<Method> tests) throws IOException {
        if (!Files.isReadable(DOCUMENT)) {
            System.out.println("no document at " + DOCUMENT + " to look the sentences up in");
            return;
        }
        String document = Files.readString(DOCUMENT).replaceAll("\\s+", " ");
        for (Method m : tests) {
            String words = m.getAnnotation(Says.class).words();
            if (!document.contains(words)) {
                wrong++;
                System.out.println(m.getName() + ": the document does not say \"" + words + "\"");
            }
        }
    }

    public static void main(String[] args) throws ReflectiveOperationException, IOException {
        List<Method> tests = tests();
        wordsStandInTheDocument(tests);
        for (Method m : tests) {
            running = m;
            m.invoke(null);
        }
        System.out.println(tests.size() + " boundary cases, " + answers + " answers, " + wrong + " not as due");
        if (wrong != 0) {
            System.exit(1);
        }
    }
}
