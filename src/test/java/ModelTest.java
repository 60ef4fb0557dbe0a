import java.math.BigInteger;
import java.util.ArrayDeque;
import java.util.ArrayList;
import java.util.Arrays;
import java.util.Collections;
import java.util.Deque;
import java.util.List;
import java.util.regex.Matcher;
import java.util.regex.Pattern;

/** Long runs of calls, each answer compared with that of a second model, written plainly from the document's words. */
public final class ModelTest {
    private static final int NONE = -1, BAD = -2, NO = -3, FULL = -4;

    /** What the document calls a STATE. Never changed once made. */
    private record State(List<int[]> tests, List<Integer> row, int start, int mode) {
        State withTests(List<int[]> other) {
            return new State(other, row, start, mode);
        }

        State withRow(List<Integer> other) {
            return new State(tests, other, start, mode);
        }

        boolean has(int t) {
            return 0 <= t && t < tests.size();
        }
    }

    /** What becomes of a test in a row. */
    private record Done(int test, boolean[] ahead, boolean passes, int wrong, boolean[] behind) {
    }

    /** A refused call, or an answer with the state that it leaves. */
    private record Outcome(int answer, State state) {
    }

    private static final class Model {
        private State now = new State(List.of(), List.of(), 0, 0);
        private final Deque<State> states = new ArrayDeque<>();
        private String text = "";
        private final int[] refusals = new int[3];

        // ---- rows

        static boolean[] cells(int bits) {
            boolean[] cells = new boolean[6];
            for (int k = 0; k < 6; k++) {
                cells[k] = bits / (1 << k) % 2 == 1;
            }
            return cells;
        }

        static int bits(boolean[] cells) {
            int bits = 0;
            for (int k = 0; k < 6; k++) {
                bits += cells[k] ? 1 << k : 0;
            }
            return bits;
        }

        static Done doOne(State s, int t, boolean[] ahead) {
            boolean[][] told = new boolean[5][];
            for (int k = 0; k < 5; k++) {
                told[k] = cells(s.tests().get(t)[k]);
            }
            int wrong = 0;
            for (int k = 0; k < 6; k++) {
                if (told[0][k] && ahead[k] || told[1][k] && !ahead[k]) {
                    wrong += 1 << k;
                }
            }
            boolean[] behind = ahead.clone();
            if (wrong == 0 || s.mode() == 1) {
                for (int k = 0; k < 6; k++) {
                    behind[k] = told[2][k] ? false : told[3][k] ? true : told[4][k] ? !ahead[k] : ahead[k];
                }
            }
            return new Done(t, ahead, wrong == 0, wrong, behind);
        }

        static List<Done> doAll(State s, List<Integer> row) {
            List<Done> done = new ArrayList<>();
            boolean[] cells = cells(s.start());
            for (int t : row) {
                Done one = doOne(s, t, cells);
                done.add(one);
                cells = one.behind();
            }
            return done;
        }

        static boolean alone(State s, int t) {
            return doAll(s, List.of(t)).get(0).passes();
        }

        static boolean flipped(State s, List<Integer> row, int t) {
            return doAll(s, row).get(row.indexOf(t)).passes() != alone(s, t);
        }

        static boolean flippedBehind(State s, List<Integer> ahead, int v) {
            List<Integer> row = new ArrayList<>(ahead);
            row.add(v);
            return flipped(s, row, v);
        }

        static int flippedSet(State s, List<Integer> row) {
            int set = 0;
            for (int t : row) {
                set += flipped(s, row, t) ? 1 << t : 0;
            }
            return set;
        }

        static List<Integer> shuffled(State s, int seed) {
            List<Integer> row = new ArrayList<>();
            for (int t = 0; t < s.tests().size(); t++) {
                row.add(t);
            }
            BigInteger x = BigInteger.valueOf(seed);
            for (int i = row.size() - 1; i >= 1; i--) {
                x = x.multiply(BigInteger.valueOf(1103515245)).add(BigInteger.valueOf(12345)).mod(BigInteger.TWO.pow(31));
                int j = x.divide(BigInteger.valueOf(65536)).mod(BigInteger.valueOf(i + 1)).intValue();
                Collections.swap(row, i, j);
            }
            return row;
        }

        static List<Integer> least(State s, List<Integer> ahead, int v) {
            List<Integer> left = new ArrayList<>(ahead);
            int before;
            do {
                before = left.size();
                for (Integer t : new ArrayList<>(left)) {
                    List<Integer> others = new ArrayList<>(left);
                    others.remove(t);
                    if (flippedBehind(s, others, v)) {
                        left = others;
                    }
                }
            } while (left.size() < before);
            return left;
        }

        static int fewest(State s, List<Integer> ahead, int v) {
            for (int number = 1; number <= 8; number++) {
                for (int set = 1; set < 256; set++) {
                    List<Integer> some = new ArrayList<>();
                    for (int t : ahead) {
                        if (set / (1 << t) % 2 == 1) {
                            some.add(t);
                        }
                    }
                    if (asSet(some) == set && some.size() == number && flippedBehind(s, some, v)) {
                        return set;
                    }
                }
            }
            throw new IllegalStateException("not flipped");
        }

        static List<Integer> halves(State s, List<Integer> ahead, int v) {
            int half = ahead.size() / 2;
            if (ahead.size() < 2) {
                return ahead;
            }
            List<Integer> first = ahead.subList(0, half);
            List<Integer> others = ahead.subList(half, ahead.size());
            if (flippedBehind(s, first, v)) {
                return halves(s, first, v);
            }
            return flippedBehind(s, others, v) ? halves(s, others, v) : ahead;
        }

        static int asSet(List<Integer> tests) {
            int set = 0;
            for (int t : tests) {
                set += 1 << t;
            }
            return set;
        }

        // ---- what is told in

        static Outcome test(State s, int... told) {
            for (int k = 0; k < 5; k++) {
                if (told[k] < 0 || told[k] > 63) {
                    return new Outcome(BAD, s);
                }
            }
            for (int k = 0; k < 6; k++) {
                int needed = 0;
                int set = 0;
                for (int i = 0; i < 5; i++) {
                    int one = told[i] >> k & 1;
                    needed += i < 2 ? one : 0;
                    set += i < 2 ? 0 : one;
                }
                if (needed > 1 || set > 1) {
                    return new Outcome(BAD, s);
                }
            }
            if (s.tests().size() == 8) {
                return new Outcome(FULL, s);
            }
            List<int[]> tests = new ArrayList<>(s.tests());
            tests.add(told.clone());
            return new Outcome(tests.size() - 1, s.withTests(tests));
        }

        static Outcome cuts(State s) {
            if (s.tests().isEmpty()) {
                return new Outcome(NO, s);
            }
            int last = s.tests().size() - 1;
            List<Integer> row = new ArrayList<>(s.row());
            row.remove(Integer.valueOf(last));
            return new Outcome(last, s.withTests(s.tests().subList(0, last)).withRow(row));
        }

        static Outcome lays(State s, int t) {
            if (!s.has(t)) {
                return new Outcome(BAD, s);
            }
            if (s.row().contains(t)) {
                return new Outcome(NO, s);
            }
            List<Integer> row = new ArrayList<>(s.row());
            row.add(t);
            return new Outcome(row.size(), s.withRow(row));
        }

        static Outcome wipes(State s) {
            return new Outcome(s.row().size(), s.withRow(List.of()));
        }

        static Outcome start(State s, int n) {
            return n < 0 || n > 63 ? new Outcome(BAD, s) : new Outcome(s.start(), new State(s.tests(), s.row(), n, s.mode()));
        }

        static Outcome mode(State s, int n) {
            return n < 0 || n > 1 ? new Outcome(BAD, s) : new Outcome(s.mode(), new State(s.tests(), s.row(), s.start(), n));
        }

        static Outcome shuffles(State s, int seed) {
            if (seed < 0 || seed > 999999) {
                return new Outcome(BAD, s);
            }
            return new Outcome(s.tests().size(), s.withRow(shuffled(s, seed)));
        }

        static Outcome trims(State s, int v) {
            if (!s.has(v)) {
                return new Outcome(BAD, s);
            }
            if (!s.row().contains(v) || !flipped(s, s.row(), v)) {
                return new Outcome(NO, s);
            }
            int place = s.row().indexOf(v);
            List<Integer> row = new ArrayList<>(least(s, s.row().subList(0, place), v));
            int went = place - row.size();
            row.addAll(s.row().subList(place, s.row().size()));
            return new Outcome(went, s.withRow(row));
        }

        int told(Outcome outcome) {
            if (outcome.answer() < 0) {
                return refuse(outcome.answer());
            }
            leave();
            now = outcome.state();
            return outcome.answer();
        }

        private void leave() {
            states.addLast(now);
            if (states.size() > 5) {
                states.removeFirst();
            }
        }

        int refuse(int why) {
            refusals[why == BAD ? 0 : why == NO ? 1 : 2]++;
            return why;
        }

        // ---- tests

        int of(int t, int what) {
            if (!now.has(t) || what < 0 || what > 5) {
                return refuse(BAD);
            }
            return what < 5 ? now.tests().get(t)[what] : alone(now, t) ? 1 : 0;
        }

        private boolean soil(int p, int v) {
            return flipped(now, List.of(p, v), v);
        }

        int soils(int p, int v) {
            return !now.has(p) || !now.has(v) || p == v ? refuse(BAD) : soil(p, v) ? 1 : 0;
        }

        int cleans(int p, int v) {
            if (!now.has(p) || !now.has(v) || p == v) {
                return refuse(BAD);
            }
            if (!soil(p, v)) {
                return refuse(NO);
            }
            int set = 0;
            for (int c = 0; c < now.tests().size(); c++) {
                if (c != p && c != v && !flipped(now, List.of(p, c, v), v)) {
                    set += 1 << c;
                }
            }
            return set;
        }

        int flips(int seed) {
            return seed < 0 || seed > 999999 ? refuse(BAD) : flippedSet(now, shuffled(now, seed));
        }

        int seed(int s, int v) {
            if (s < 0 || s > 999999 || !now.has(v)) {
                return refuse(BAD);
            }
            for (int one = s; one < s + 200 && one < 1000000; one++) {
                if (flipped(now, shuffled(now, one), v)) {
                    return one;
                }
            }
            return NONE;
        }

        // ---- the row

        int at(int k) {
            return k < 0 ? refuse(BAD) : k < now.row().size() ? now.row().get(k) : NONE;
        }

        int inRow(int t, int what) {
            if (!now.has(t) || what < 0 || what > 4) {
                return refuse(BAD);
            }
            int place = now.row().indexOf(t);
            if (place < 0) {
                return refuse(NO);
            }
            Done done = doAll(now, now.row()).get(place);
            int[] answers = {place, done.passes() ? 1 : 0, flipped(now, now.row(), t) ? 1 : 0, done.wrong(), bits(done.behind())};
            return answers[what];
        }

        int who(int t, int cell) {
            if (!now.has(t) || cell < 0 || cell > 5) {
                return refuse(BAD);
            }
            int place = now.row().indexOf(t);
            if (place < 0) {
                return refuse(NO);
            }
            List<Done> done = doAll(now, now.row());
            for (int k = place - 1; k >= 0; k--) {
                if (done.get(k).ahead()[cell] != done.get(k).behind()[cell]) {
                    return done.get(k).test();
                }
            }
            return NONE;
        }

        int left(int v, int how) {
            if (!now.has(v) || how < 0 || how > 2) {
                return refuse(BAD);
            }
            int place = now.row().indexOf(v);
            if (place < 0 || !flipped(now, now.row(), v)) {
                return refuse(NO);
            }
            List<Integer> ahead = now.row().subList(0, place);
            return how == 0 ? asSet(least(now, ahead, v)) : how == 1 ? fewest(now, ahead, v) : asSet(halves(now, ahead, v));
        }

        int count(int what) {
            if (what < 0 || what > 7) {
                return refuse(BAD);
            }
            List<Done> done = doAll(now, now.row());
            int passing = 0;
            for (Done one : done) {
                passing += one.passes() ? 1 : 0;
            }
            int pairs = 0;
            for (int p = 0; p < now.tests().size(); p++) {
                for (int v = 0; v < now.tests().size(); v++) {
                    pairs += p != v && soil(p, v) ? 1 : 0;
                }
            }
            int behind = done.isEmpty() ? now.start() : bits(done.get(done.size() - 1).behind());
            int[] answers = {now.tests().size(), now.row().size(), now.start(), now.mode(), behind, passing,
                Integer.bitCount(flippedSet(now, now.row())), pairs};
            return answers[what];
        }

        // ---- texts

        private static final String NUMBER = "[0-9]{1,2}";
        private static final String ORDER = "(?:t *" + NUMBER + (" +" + NUMBER).repeat(4) + "|[rsm] *" + NUMBER + "|[wc])";
        private static final Pattern WHOLE = Pattern.compile("(?: *" + ORDER + " *;)+ *");

        /** How far the text could be the beginning of one without a fault. */
        static int fault(String text) {
            if (WHOLE.matcher(text).matches()) {
                return NONE;
            }
            int good = 0;
            for (int n = 1; n <= text.length(); n++) {
                Matcher begin = WHOLE.matcher(text.substring(0, n));
                if (!begin.matches() && !begin.hitEnd()) {
                    return n - 1;
                }
                good = n;
            }
            return good;
        }

        static Outcome order(State s, String order) {
            String[] parts = order.substring(1).trim().split(" +");
            int[] n = new int[5];
            for (int k = 0; k < parts.length && !parts[k].isEmpty(); k++) {
                n[k] = Integer.parseInt(parts[k]);
            }
            switch (order.charAt(0)) {
                case 't': return test(s, n);
                case 'r': return lays(s, n[0]);
                case 'w': return wipes(s);
                case 's': return start(s, n[0]);
                case 'm': return mode(s, n[0]);
                default: return cuts(s);
            }
        }

        int type(int c) {
            if (c < 0 || c > 127) {
                return refuse(BAD);
            }
            if (text.length() == 150) {
                return refuse(FULL);
            }
            text += (char) c;
            return text.length();
        }

        int clear() {
            int had = text.length();
            text = "";
            return had;
        }

        int does() {
            int fault = fault(text);
            if (fault != NONE) {
                return -10 - fault;
            }
            State s = now;
            int number = 0;
            for (String order : text.trim().split(";")) {
                Outcome outcome = order(s, order.trim());
                if (outcome.answer() < 0) {
                    return -1000 - number;
                }
                s = outcome.state();
                number++;
            }
            leave();
            now = s;
            return number;
        }

        int back() {
            if (states.isEmpty()) {
                return refuse(NO);
            }
            now = states.removeLast();
            return states.size();
        }

        int told(int what) {
            if (what < 0 || what > 4) {
                return refuse(BAD);
            }
            return what < 3 ? refusals[what] : what == 3 ? text.length() : states.size();
        }

        long digest() {
            long h = 18056;
            for (int what = 0; what <= 4; what++) {
                h = 31 * h + told(what);
            }
            for (int what = 0; what <= 7; what++) {
                h = 31 * h + count(what);
            }
            for (int t = 0; t < now.tests().size(); t++) {
                for (int what = 0; what <= 5; what++) {
                    h = 31 * h + of(t, what);
                }
            }
            for (int t : now.row()) {
                h = 31 * h + t;
                for (int what = 1; what <= 4; what++) {
                    h = 31 * h + inRow(t, what);
                }
            }
            for (int seed = 1; seed <= 3; seed++) {
                h = 31 * h + flips(seed);
            }
            return h;
        }
    }

    // ---- runs

    private static long dice;
    private static int wrong = 0;
    private static long calls = 0;
    private static final int[] answersSeen = new int[26];
    private static final List<String> trail = new ArrayList<>();

    private static int below(int n) {
        dice = dice * 6364136223846793005L + 1442695040888963407L;
        return (int) ((dice >>> 33) % n);
    }

    private static int oneOf(int... some) {
        return some[below(some.length)];
    }

    private static int mostly(int n) {
        return below(12) == 0 ? oneOf(-1, n, n + 1, Integer.MIN_VALUE, Integer.MAX_VALUE, 8, -8) : n <= 0 ? 0 : below(n);
    }

    private static int someSeed() {
        return below(8) == 0 ? oneOf(-1, 0, 1, 999999, 1000000, 999900, 999800, Integer.MAX_VALUE, Integer.MIN_VALUE) : below(1000000);
    }

    /** Few cells each, of few cells, so that tests meet on them. */
    private static int[] someTest(int span) {
        int[] told = new int[5];
        for (int k = 0; k < span; k++) {
            int needed = below(5);
            int set = below(7);
            if (needed < 2) {
                told[needed] |= 1 << k;
            }
            if (set < 3) {
                told[2 + set] |= 1 << k;
            }
        }
        if (below(15) == 0) {
            told[below(5)] = oneOf(-1, 64, 63, 1, 3, 127, Integer.MIN_VALUE);
        }
        return told;
    }

    private static String blanks() {
        return " ".repeat(below(3) == 0 ? below(3) : 0);
    }

    private static String someOrder(int span) {
        switch (below(8)) {
            case 0: return "w";
            case 1: return below(2) == 0 ? "c" : "w";
            case 2: return "s" + blanks() + below(below(6) == 0 ? 100 : 64);
            case 3: return "m" + blanks() + (below(8) == 0 ? below(100) : below(2));
            case 4:
            case 5: return "r" + blanks() + oneOf(0, 1, 2, 3, 4, 5, 6, 7, 8, 12);
            default:
                StringBuilder order = new StringBuilder("t");
                String between = blanks();
                for (int n : someTest(span)) {
                    order.append(between).append(n < 0 || n > 99 ? 99 : n);
                    between = " " + blanks();
                }
                return order.toString();
        }
    }

    private static String someText(int span) {
        StringBuilder text = new StringBuilder();
        for (int k = below(6); k >= 0; k--) {
            text.append(blanks()).append(someOrder(span)).append(blanks()).append(';');
        }
        text.append(blanks());
        for (int k = below(3) == 0 ? 1 + below(2) : 0; k > 0 && text.length() > 0; k--) {
            int place = below(text.length());
            switch (below(4)) {
                case 0: text.deleteCharAt(place); break;
                case 1: text.setCharAt(place, "trwsmc0123456789; x\t".charAt(below(20))); break;
                case 2: text.insert(place, "trwsmc0123456789; x\u0000".charAt(below(20))); break;
                default: text.setLength(place);
            }
        }
        return text.toString();
    }

    private static void compare(int kind, String call, long got, long want) {
        calls++;
        trail.add(call + " = " + got);
        if (want >= 0 && want < 1 << 20 && kind < 26) {
            answersSeen[kind]++;
        }
        if (got != want) {
            wrong++;
            if (wrong <= 10) {
                System.out.println(call + " answered " + got + ", due is " + want + ", behind "
                    + trail.subList(Math.max(0, trail.size() - 60), trail.size()));
            }
        }
    }

    private static void oneCall(SoiledTests x, Model y, int span) {
        int n = y.now.tests().size();
        int a = mostly(n);
        int b = mostly(n);
        int seed = someSeed();
        int kind = below(30);
        switch (kind) {
            case 0:
            case 1:
                int[] t = someTest(span);
                compare(0, "test" + Arrays.toString(t), x.test(t[0], t[1], t[2], t[3], t[4]), y.told(Model.test(y.now, t)));
                break;
            case 2:
                if (below(3) == 0) {
                    compare(kind, "cuts()", x.cuts(), y.told(Model.cuts(y.now)));
                }
                break;
            case 3:
            case 4:
            case 5:
                compare(3, "lays(" + a + ")", x.lays(a), y.told(Model.lays(y.now, a)));
                break;
            case 6:
                if (below(4) == 0) {
                    compare(kind, "wipes()", x.wipes(), y.told(Model.wipes(y.now)));
                }
                break;
            case 7:
                int s = mostly(64);
                compare(kind, "start(" + s + ")", x.start(s), y.told(Model.start(y.now, s)));
                break;
            case 8:
                int m = mostly(2);
                compare(kind, "mode(" + m + ")", x.mode(m), y.told(Model.mode(y.now, m)));
                break;
            case 9:
            case 10:
                compare(9, "shuffles(" + seed + ")", x.shuffles(seed), y.told(Model.shuffles(y.now, seed)));
                break;
            case 11:
                compare(kind, "trims(" + a + ")", x.trims(a), y.told(Model.trims(y.now, a)));
                break;
            case 12:
                compare(kind, "soils(" + a + ", " + b + ")", x.soils(a, b), y.soils(a, b));
                break;
            case 13:
                compare(kind, "cleans(" + a + ", " + b + ")", x.cleans(a, b), y.cleans(a, b));
                break;
            case 14:
                compare(kind, "flips(" + seed + ")", x.flips(seed), y.flips(seed));
                break;
            case 15:
                compare(kind, "seed(" + seed + ", " + a + ")", x.seed(seed, a), y.seed(seed, a));
                break;
            case 16:
                int k = mostly(9);
                compare(kind, "at(" + k + ")", x.at(k), y.at(k));
                break;
            case 17:
            case 18:
                int what = mostly(5);
                compare(17, "inRow(" + a + ", " + what + ")", x.inRow(a, what), y.inRow(a, what));
                break;
            case 19:
                int cell = mostly(6);
                compare(kind, "who(" + a + ", " + cell + ")", x.who(a, cell), y.who(a, cell));
                break;
            case 20:
                int which = mostly(8);
                compare(kind, "count(" + which + ")", x.count(which), y.count(which));
                break;
            case 21:
                compare(kind, "back()", x.back(), y.back());
                break;
            case 22:
                int told = mostly(5);
                compare(kind, "told(" + told + ")", x.told(told), y.told(told));
                break;
            case 23:
                int part = mostly(6);
                compare(kind, "of(" + a + ", " + part + ")", x.of(a, part), y.of(a, part));
                break;
            case 24:
                tellText(x, y, someText(span));
                break;
            case 25:
                compare(25, "does()", x.does(), y.does());
                break;
            default:
                int how = mostly(3);
                compare(24, "left(" + a + ", " + how + ")", x.left(a, how), y.left(a, how));
        }
    }

    private static void tellText(SoiledTests x, Model y, String text) {
        if (below(8) != 0) {
            compare(26, "clear()", x.clear(), y.clear());
        }
        for (int i = 0; i < text.length(); i++) {
            compare(26, "type(" + (int) text.charAt(i) + ")", x.type(text.charAt(i)), y.type(text.charAt(i)));
        }
        if (below(8) == 0) {
            int c = oneOf(-1, 128, 127, 0, Integer.MIN_VALUE, Integer.MAX_VALUE);
            compare(26, "type(" + c + ")", x.type(c), y.type(c));
        }
        compare(25, "does()", x.does(), y.does());
    }

    private static void oneRun(int number) {
        dice = 77777L * number + 5;
        trail.clear();
        SoiledTests x = new SoiledTests();
        Model y = new Model();
        int span = 1 + below(6);
        for (int k = 1 + below(8); k > 0; k--) {
            int[] t = someTest(span);
            compare(0, "test" + Arrays.toString(t), x.test(t[0], t[1], t[2], t[3], t[4]), y.told(Model.test(y.now, t)));
        }
        while (trail.size() < 300) {
            oneCall(x, y, span);
            if (below(6) == 0) {
                compare(26, "digest()", x.digest(), y.digest());
            }
        }
    }

    /** Texts by themselves: every short one over a few bytes, so that each fault's place is met. */
    private static void shortTexts() {
        String some = "wst;1 ";
        for (int length = 0; length <= 5; length++) {
            int all = (int) Math.pow(some.length(), length);
            for (int code = 0; code < all; code++) {
                StringBuilder text = new StringBuilder();
                for (int k = 0, rest = code; k < length; k++, rest /= some.length()) {
                    text.append(some.charAt(rest % some.length()));
                }
                trail.clear();
                SoiledTests x = new SoiledTests();
                Model y = new Model();
                for (int i = 0; i < length; i++) {
                    x.type(text.charAt(i));
                    y.type(text.charAt(i));
                }
                compare(26, "does() of \"" + text + "\"", x.does(), y.does());
            }
        }
    }

    public static void main(String[] args) {
        int runs = args.length > 0 ? Integer.parseInt(args[0]) : 1500;
        for (int number = 0; number < runs; number++) {
            oneRun(number);
        }
        shortTexts();
        System.out.println(calls + " calls as the model, " + wrong + " not; answered and not refused, by kind "
            + Arrays.toString(answersSeen));
        if (wrong != 0) {
            System.exit(1);
        }
    }
}
