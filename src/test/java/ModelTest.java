import java.util.ArrayList;
import java.util.List;

/**
 * Runs of calls on a bench and on the model, always the same ones: each answer, and behind each call the
 * row and the counts, must be alike. With an argument it does that many runs for each kind. A bench is used
 * for at most 512 calls, so of long rows and rules some places are looked at, and a run ends in time.
 */
public final class ModelTest {
    private static final int MOST_CALLS = 512;
    /** More than one turn of a run can need, and more than a new rule can need. */
    private static final int CALLS_OF_ONE = 100;
    private static final int CALLS_OF_RULE = 320;

    private long seed;
    private StepBench bench;
    private Model model;
    private int calls;
    private final StringBuilder told = new StringBuilder();

    private ModelTest(long seed) {
        this.seed = seed;
    }

    public static void main(String[] args) {
        int runs = args.length > 0 ? Integer.parseInt(args[0]) : 160;
        int first = args.length > 1 ? Integer.parseInt(args[1]) : 1;
        for (int i = first; i < first + runs; i++) {
            for (int kind = 0; kind < 6; kind++) {
                new ModelTest(1000003L * i + kind).oneRun(kind);
            }
        }
        Due.close("ModelTest");
    }

    /** From 0 to n - 1, by a plain congruence: the same at every time. */
    private int pick(int n) {
        seed = seed * 6364136223846793005L + 1442695040888963407L;
        return (int) Math.floorMod(seed >>> 33, (long) n);
    }

    private int between(int least, int most) {
        return least + pick(most - least + 1);
    }

    private void oneRun(int kind) {
        bench = new StepBench();
        model = new Model();
        told.setLength(0);
        told.append("seed ").append(seed).append(':');
        calls = 0;
        begin(kind);
        while (calls < MOST_CALLS - CALLS_OF_ONE) {
            if (pick(25) == 0 && calls < MOST_CALLS - CALLS_OF_RULE) {
                begin(kind);
            }
            oneCall();
        }
        Due.is(told + "; calls", true, calls <= MOST_CALLS);
    }

    private void begin(int kind) {
        switch (kind) {
            case 0: beginRule(smallRule()); break;
            case 1: beginRule(backRule()); break;
            case 2: beginRule(wildRule()); break;
            case 3: beginList(); break;
            case 4: beginMachine(); break;
            default: break;
        }
    }

    private void same(String call, Due.Call of, Due.Call want) {
        calls++;
        told.append(' ').append(call);
        Due.text(told + ";", Due.outcome(want), Due.outcome(of));
        if (told.length() > 6000) {
            told.delete(0, 3000);
        }
    }

    private void sameState() {
        sameCount(3);
        sameCount(between(-1, 7));
        int n = (int) model.count(3);
        sameRow(n);
        if (n <= 6) {
            for (int i = 0; i < n; i++) {
                sameRow(i);
            }
        } else {
            sameRow(0);
            sameRow(n - 1);
            sameRow(pick(n));
            sameRow(pick(n));
        }
    }

    private void sameCount(int what) {
        calls++;
        Due.text(told + "; count(" + what + ")", Due.outcome(() -> model.count(what)),
            Due.outcome(() -> bench.count(what)));
    }

    private void sameRow(int i) {
        calls++;
        Due.text(told + "; row(" + i + ")", Due.outcome(() -> model.row(i)), Due.outcome(() -> bench.row(i)));
    }

    private void sameRule() {
        int n = (int) Math.max(model.count(1), model.count(2));
        for (int i = 0; i < Math.min(2 * n, 8); i++) {
            sameTold(pick(n), pick(3));
        }
        sameTold(pick(2) == 0 ? n : -1, pick(2));
        sameTold(0, pick(2) == 0 ? 3 : -1);
    }

    private void sameTold(int r, int what) {
        calls++;
        Due.text(told + "; told(" + r + ", " + what + ")", Due.outcome(() -> model.told(r, what)),
            Due.outcome(() -> bench.told(r, what)));
    }

    // ---- rules

    private static int divisorCommon(int x, int y) {
        return y == 0 ? Math.abs(x) : divisorCommon(y, x % y);
    }

    private int[] shareOf(int m, int r, int mostA, int mostD) {
        int a = between(-mostA, mostA);
        int d = between(1, mostD);
        while (a * m % d != 0) {
            d--;
        }
        int b = Math.floorMod(-a * r, d);
        b += d * between(-3, 3);
        return Math.abs(b) <= 1000 ? new int[] {a, b, d} : new int[] {1, 0, 1};
    }

    private int[][] smallRule() {
        int m = between(2, pick(3) == 0 ? 12 : 4);
        int[][] shares = new int[m][];
        for (int r = 0; r < m; r++) {
            shares[r] = shareOf(m, r, 5, 8);
            if (shares[r][0] == 0 && pick(3) != 0) {
                shares[r] = shareOf(m, r, 5, 8);
            }
        }
        return shares;
    }

    private int[][] wildRule() {
        int m = pick(2) == 0 ? between(2, 64) : between(2, 9);
        int[][] shares = new int[m][];
        for (int r = 0; r < m; r++) {
            shares[r] = pick(4) == 0 ? new int[] {1, between(-5, 5), 1} : shareOf(m, r, 1000, 1000);
        }
        return shares;
    }

    /** Splits all numbers into m rows, and steps each rest's numbers on one of them. */
    private int[][] backRule() {
        int m = between(2, pick(4) == 0 ? 16 : 8);
        List<int[]> rows = new ArrayList<>();
        rows.add(new int[] {0, 1});
        while (rows.size() < m) {
            int parts = between(2, Math.min(4, m - rows.size() + 1));
            int[] row = rows.remove(pick(rows.size()));
            for (int i = 0; i < parts; i++) {
                rows.add(new int[] {row[0] + i * row[1], row[1] * parts});
            }
        }
        int[][] shares = new int[m][];
        for (int r = 0; r < m; r++) {
            int[] row = rows.remove(pick(rows.size()));
            int g = divisorCommon(row[1], m);
            int a = row[1] / g * (pick(4) == 0 ? -1 : 1);
            int d = m / g;
            int times = pick(8) == 0 ? 2 : 1;
            int b = d * (row[0] + row[1] * between(-1, 1)) - a * r;
            shares[r] = new int[] {times * a, times * b, times * d};
        }
        if (pick(8) == 0) {
            shares[pick(m)][1] += 1 + pick(3);
        }
        return shares;
    }

    private void beginRule(int[][] shares) {
        int m = shares.length;
        same("draft(" + m + ")", () -> bench.draft(m) ? 1 : 0, () -> model.draft(m) ? 1 : 0);
        for (int what = 0; what < 3; what++) {
            int kind = pick(6) == 0 ? pick(4) : between(1, 2);
            int n = pick(10) == 0 ? between(0, 64) : m;
            sheet(kind, n);
            for (int r = 0; r < m; r++) {
                entry(r, shares[r][what]);
            }
            lay(what);
        }
        seal();
        sameRule();
    }

    private void sheet(int kind, int n) {
        same("sheet(" + kind + ", " + n + ")", () -> bench.sheet(kind, n) ? 1 : 0, () -> model.sheet(kind, n) ? 1 : 0);
    }

    private void entry(int i, long v) {
        same("entry(" + i + ", " + v + ")", () -> bench.entry(i, v) ? 1 : 0, () -> model.entry(i, v) ? 1 : 0);
    }

    private void lay(int what) {
        same("lay(" + what + ")", () -> bench.lay(what), () -> model.lay(what));
    }

    private void seal() {
        same("seal()", () -> bench.seal(), () -> model.seal());
    }

    // ---- lists and machines

    private long smooth(int most) {
        long x = 1;
        int[] primes = {2, 3, 5, 7, 11, 13, 31607};
        for (int i = pick(6); i > 0; i--) {
            long y = x * primes[pick(primes.length)];
            x = y <= most ? y : x;
        }
        return x;
    }

    private void beginList() {
        same("list()", () -> bench.list() ? 1 : 0, () -> model.list() ? 1 : 0);
        int n = pick(8) == 0 ? 42 : pick(9);
        for (int i = 0; i < n; i++) {
            addFraction();
        }
        sameRule();
    }

    private void addFraction() {
        long p = smooth(1000000000);
        long q = smooth(pick(3) == 0 ? 1000000000 : 100);
        if (pick(12) == 0) {
            p = pick(2) == 0 ? between(-1, 1) : 999999999L + pick(4);
        }
        if (pick(12) == 0) {
            q = pick(2) == 0 ? between(-1, 1) : 999999999L + pick(4);
        }
        long over = p;
        long under = q;
        same("fraction(" + p + ", " + q + ")", () -> bench.fraction(over, under), () -> model.fraction(over, under));
    }

    private void beginMachine() {
        same("scrap()", () -> bench.scrap(), () -> model.scrap());
        int n = pick(6) == 0 ? 13 : between(1, 5);
        for (int i = 0; i < n; i++) {
            addAct(n);
        }
        if (pick(2) == 0) {
            same("made()", () -> bench.made(), () -> model.made());
            sameRule();
        }
    }

    private void addAct(int n) {
        int kind = pick(15) == 0 ? between(-1, 3) : pick(8) == 0 ? 2 : pick(2);
        int heap = pick(15) == 0 ? between(-1, 4) : pick(3);
        int i = pick(15) == 0 ? between(-1, 12) : pick(n);
        int j = pick(15) == 0 ? between(-1, 12) : pick(n);
        same("act(" + kind + ", " + heap + ", " + i + ", " + j + ")", () -> bench.act(kind, heap, i, j),
            () -> model.act(kind, heap, i, j));
    }

    // ---- calls

    private long number() {
        switch (pick(12)) {
            case 0: return 1000000000000000L - pick(40);
            case 1: return -1000000000000000L + pick(40);
            case 2: return between(-2000, 2000) * 1000000000L;
            case 3: return smooth(1000000000) * smooth(1000000);
            case 4: return 1000000000000001L + pick(3);
            case 5: return -1000000000000001L - pick(3);
            case 6: return pick(2) == 0 ? Long.MIN_VALUE + pick(2) : Long.MAX_VALUE - pick(2);
            case 7: return between(-1000, 1000);
            default: return between(-9, 60);
        }
    }

    private int steps() {
        switch (pick(10)) {
            case 0: return -1;
            case 1: return 0;
            case 2: return 100001;
            case 3: return pick(4) == 0 ? 100000 : 300;
            default: return pick(40);
        }
    }

    private void oneCall() {
        int which = pick(40);
        if (which < 12) {
            stepCall(which);
        } else if (which < 24) {
            wordCall(which);
        } else if (which < 34) {
            backCall(which);
        } else {
            otherCall(which);
        }
        sameState();
    }

    private void stepCall(int which) {
        long x = number();
        int k = steps();
        if (which < 4 && isLeftOpen(x)) {
            return;
        }
        switch (which) {
            case 0:
            case 1:
                same("step(" + x + ")", () -> bench.step(x), () -> model.step(x));
                break;
            case 2:
            case 3:
                same("run(" + x + ", " + k + ")", () -> bench.run(x, k), () -> model.run(x, k));
                break;
            case 4:
            case 5:
                long to = pick(3) == 0 ? number() : reached(x);
                same("until(" + x + ", " + to + ", " + k + ")", () -> bench.until(x, to, k),
                    () -> model.until(x, to, k));
                break;
            case 6:
            case 7:
                same("height(" + x + ", " + k + ")", () -> bench.height(x, k), () -> model.height(x, k));
                break;
            case 8:
            case 9:
                same("peak(" + x + ", " + k + ")", () -> bench.peak(x, k), () -> model.peak(x, k));
                break;
            default:
                int n = pick(8) == 0 ? between(38, 42) : pick(12);
                same("word(" + x + ", " + n + ")", () -> bench.word(x, n), () -> model.word(x, n));
                break;
        }
    }

    /** Of a list, what is no number and ends: the document names two exceptions, and not which comes first. */
    private boolean isLeftOpen(long x) {
        if (model.count(0) != 2 || x >= -1000000000000000L && x <= 1000000000000000L) {
            return false;
        }
        for (int i = 0; i < model.count(2) && x > 0; i++) {
            if (x % model.told(i, 1) == 0) {
                return false;
            }
        }
        return true;
    }

    private long reached(long x) {
        try {
            return model.run(x, pick(12));
        } catch (RuntimeException e) {
            return 1;
        }
    }

    private void wordCall(int which) {
        if (which < 16) {
            tellWord();
            same("shape()", () -> bench.shape(), () -> model.shape());
            sameState();
            same("ring()", () -> bench.ring(), () -> model.ring());
        } else if (which < 18) {
            int r = between(-1, 64);
            same("rest(" + r + ")", () -> bench.rest(r), () -> model.rest(r));
        } else if (which < 22) {
            int k = wordLength();
            if (which < 20) {
                same("rings(" + k + ")", () -> bench.rings(k), () -> model.rings(k));
            } else {
                same("falls(" + k + ")", () -> bench.falls(k), () -> model.falls(k));
            }
        } else {
            int n = pick(6) == 0 ? between(-1, 0) : pick(6) == 0 ? between(19999, 20001) : between(1, 60);
            int k = pick(6) == 0 ? -1 : pick(6) == 0 ? between(1999, 2001) : pick(80);
            same("least(" + n + ", " + k + ")", () -> bench.least(n, k), () -> model.least(n, k));
        }
    }

    /** Mostly so short that the model has few words to go through. */
    private int wordLength() {
        if (pick(8) == 0) {
            return between(0, 13);
        }
        long m = Math.max(2, model.count(1));
        int k = 1;
        while (Math.pow(m, k + 1) <= 600 && k < 12 && pick(3) != 0) {
            k++;
        }
        return k;
    }

    /** By hand, or the rests that a number takes: so that rings come up. */
    private void tellWord() {
        same("clear()", () -> bench.clear(), () -> model.clear());
        int n = pick(6) == 0 ? pick(42) : between(1, 5);
        int m = (int) Math.max(2, model.count(1));
        long x = between(-20, 60);
        int form = pick(3);
        for (int i = 0; i < n; i++) {
            int r = form == 0 ? pick(m) : form == 1 ? i % m : (int) Math.floorMod(x, (long) m);
            same("rest(" + r + ")", () -> bench.rest(r), () -> model.rest(r));
            x = stepped(x);
        }
    }

    private long stepped(long x) {
        try {
            return model.step(x);
        } catch (RuntimeException e) {
            return x;
        }
    }

    private void backCall(int which) {
        long x = number();
        switch (which) {
            case 24:
            case 25:
                same("back(" + x + ")", () -> bench.back(x), () -> model.back(x));
                break;
            case 26:
                long v = pick(4) == 0 ? x : between(-4, 6);
                same("whole(" + v + ")", () -> bench.whole(v), () -> model.whole(v));
                break;
            case 27:
            case 28:
                int k = pick(6) == 0 ? between(-1, 21) : pick(7);
                same("backs(" + x + ", " + k + ")", () -> bench.backs(x, k), () -> model.backs(x, k));
                break;
            case 29:
            case 30:
                same("both()", () -> bench.both(), () -> model.both());
                break;
            case 31:
                same("turn()", () -> bench.turn(), () -> model.turn());
                sameRule();
                break;
            case 32:
                same("drift()", () -> bench.drift(), () -> model.drift());
                break;
            default:
                same("fixed()", () -> bench.fixed(), () -> model.fixed());
                break;
        }
    }

    private int weight() {
        return pick(8) == 0 ? (pick(2) == 0 ? Integer.MIN_VALUE : Integer.MAX_VALUE) : between(-2, 2);
    }

    private int heap() {
        return pick(10) == 0 ? between(-1, 0) : pick(10) == 0 ? between(999, 1001) : pick(7);
    }

    private void otherCall(int which) {
        int a = heap();
        int b = heap();
        int c = heap();
        int d = heap();
        switch (which) {
            case 34:
                int k = steps();
                same("go(" + a + ", " + b + ", " + c + ", " + d + ", " + k + ")", () -> bench.go(a, b, c, d, k),
                    () -> model.go(a, b, c, d, k));
                break;
            case 35:
                same("begins(" + a + ", " + b + ", " + c + ", " + d + ")", () -> bench.begins(a, b, c, d),
                    () -> model.begins(a, b, c, d));
                break;
            case 36:
                law(weight(), weight(), weight(), weight(), weight());
                break;
            case 37:
                addFraction();
                break;
            case 38:
                addAct(5);
                break;
            default:
                sheetCall();
                break;
        }
    }

    private void law(int w0, int w1, int w2, int w3, int w) {
        same("law(" + w0 + ", " + w1 + ", " + w2 + ", " + w3 + ", " + w + ")", () -> bench.law(w0, w1, w2, w3, w),
            () -> model.law(w0, w1, w2, w3, w));
    }

    private void sheetCall() {
        switch (pick(6)) {
            case 0:
                int m = between(0, 66);
                same("draft(" + m + ")", () -> bench.draft(m) ? 1 : 0, () -> model.draft(m) ? 1 : 0);
                break;
            case 1:
                sheet(between(-1, 4), pick(4) == 0 ? between(-1, 66) : pick(5));
                break;
            case 2:
                entry(between(-1, 5), pick(2) == 0 ? between(-3, 3) : number());
                break;
            case 3:
                lay(between(-1, 3));
                break;
            case 4:
                seal();
                sameRule();
                break;
            default:
                same("made()", () -> bench.made(), () -> model.made());
                sameRule();
                break;
        }
    }
}
