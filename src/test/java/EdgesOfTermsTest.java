/** The edges that the document's Terms name: NUMBERS, RESTS, exact sums, RULES, LISTS. */
public final class EdgesOfTermsTest {
    private static final long MOST = 1000000000000000L;
    private static final String BEYOND = "ArithmeticException";
    private static final String ENDS = "NoSuchElementException";

    public static void main(String[] args) {
        for (long x : new long[] {MOST, -MOST, MOST - 1, 1 - MOST}) {
            isNumber(x);
        }
        for (long x : new long[] {MOST + 1, -MOST - 1, Long.MAX_VALUE, Long.MIN_VALUE, 1L << 62, -(1L << 62)}) {
            isNoNumber(x);
        }
        numbersOfLists();
        justWithinAndBeyond();
        listJustWithinAndBeyond();
        exactHoweverLarge();
        rests();
        listsFrom1On();
        lowestTerms();
        firstFraction();
        Due.close("EdgesOfTermsTest");
    }

    /** "NUMBERS are whole ones of size 10^15 at most." */
    private static void isNumber(long x) {
        StepBench b = Bench.alike(2, 1, 0, 1);
        Due.is("T1: step(" + x + ")", x, b.step(x));
        Due.is("T1: run(" + x + ", 0)", x, b.run(x, 0));
        Due.is("T1: run(" + x + ", 7)", x, b.run(x, 7));
        Due.is("T1: until(x, x, 0) of " + x, 0, b.until(x, x, 0));
        Due.is("T1: until(0, " + x + ", 1)", -2, b.until(0, x, 1));
        Due.is("T1: until(" + x + ", 0, 1)", -2, b.until(x, 0, 1));
        Due.is("T1: height(" + x + ", 1)", -2, b.height(x, 1));
        Due.is("T1: peak(" + x + ", 1)", x, b.peak(x, 1));
        Due.is("T1: word(" + x + ", 1)", 1, b.word(x, 1));
        Due.row("T1: its rest", b, Math.floorMod(x, 2L));
        Due.is("T1: back(" + x + ")", 1, b.back(x));
        Due.row("T1: the number before", b, x);
        Due.is("T1: backs(" + x + ", 0)", 1, b.backs(x, 0));
        Due.is("T1: backs(" + x + ", 20)", 1, b.backs(x, 20));
        StepBench turned = Bench.alike(2, -1, 0, 1);
        Due.is("T1: until(x, -x, 1) of " + x, 1, turned.until(x, -x, 1));
        Due.is("T1: peak by -x", Math.abs(x), turned.peak(x, 1));
    }

    private static void isNoNumber(long x) {
        StepBench b = Bench.alike(2, 1, 0, 1);
        Due.throwsA("T1: step(" + x + ")", BEYOND, () -> b.step(x));
        Due.throwsA("T1: run(" + x + ", 0)", BEYOND, () -> b.run(x, 0));
        Due.is("T1: until(x, x, 0) of " + x, -1, b.until(x, x, 0));
        Due.is("T1: until(0, " + x + ", 0)", -1, b.until(0, x, 0));
        Due.is("T1: until(" + x + ", 0, 0)", -1, b.until(x, 0, 0));
        Due.is("T1: height(" + x + ", 0)", -1, b.height(x, 0));
        Due.throwsA("T1: peak(" + x + ", 0)", BEYOND, () -> b.peak(x, 0));
        Due.is("T1: word(" + x + ", 1)", -1, b.word(x, 1));
        Due.is("T1: back(" + x + ")", -1, b.back(x));
        Due.is("T1: backs(" + x + ", 0)", -1, b.backs(x, 0));
        StepBench zero = Bench.alike(2, 0, 0, 1);
        Due.throwsA("T1: step(" + x + "), though to 0", BEYOND, () -> zero.step(x));
        Due.is("T1: height(" + x + ", 5), though to 0", -1, zero.height(x, 5));
        Due.is("T1: until(" + x + ", 0, 5), though to 0", -1, zero.until(x, 0, 5));
        Due.is("T1: whole(" + x + ")", 0, zero.whole(x));
    }

    private static void numbersOfLists() {
        StepBench b = Bench.withList(1, 1);
        Due.is("T1: of a list, step(10^15)", MOST, b.step(MOST));
        Due.is("T1: of a list, run(10^15, 9)", MOST, b.run(MOST, 9));
        Due.is("T1: of a list, until(10^15, 10^15, 0)", 0, b.until(MOST, MOST, 0));
        Due.is("T1: of a list, height(10^15, 2)", -2, b.height(MOST, 2));
        Due.is("T1: of a list, peak(10^15, 2)", MOST, b.peak(MOST, 2));
        Due.is("T1: of a list, word(10^15, 2)", 2, b.word(MOST, 2));
        StepBench half = Bench.withList(1, 2);
        for (long x : new long[] {MOST + 2, Long.MAX_VALUE - 1}) {
            Due.throwsA("T1: of a list, step(" + x + ")", BEYOND, () -> half.step(x));
            Due.throwsA("T1: of a list, run(" + x + ", 0)", BEYOND, () -> half.run(x, 0));
            Due.is("T1: of a list, until(" + x + ", ..)", -1, half.until(x, x / 2, 3));
            Due.is("T1: of a list, height(" + x + ", 3)", -1, half.height(x, 3));
            Due.throwsA("T1: of a list, peak(" + x + ", 3)", BEYOND, () -> half.peak(x, 3));
            Due.is("T1: of a list, word(" + x + ", 3)", -1, half.word(x, 3));
        }
        Due.is("T1: of a list, no number to come to", -1, half.until(8, MOST + 1, 3));
        Due.is("T1: of a list, a number that it never comes to", -2, half.until(8, MOST, 3));
    }

    /** "What comes beyond is BEYOND." */
    private static void justWithinAndBeyond() {
        long[][] cases = {
            // a, b, the last number that steps within, and which way the next one lies
            {1, 1, MOST - 1, 1}, {1, -1, 1 - MOST, -1}, {1, 1000, MOST - 1000, 1}, {1, -1000, 1000 - MOST, -1},
            {2, 0, MOST / 2, 1}, {2, 0, -MOST / 2, -1}, {1000, 0, MOST / 1000, 1}, {1000, 0, -MOST / 1000, -1},
            {-1, 1, 1 - MOST, -1}, {-1, -1, MOST - 1, 1}, {-2, 0, MOST / 2, 1}, {-2, 0, -MOST / 2, -1}
        };
        for (long[] one : cases) {
            StepBench b = Bench.alike(2, one[0], one[1], 1);
            String call = "T1: " + one[0] + " x + " + one[1] + " of " + one[2];
            long last = one[0] * one[2] + one[1];
            Due.is(call, MOST, Math.abs(last));
            Due.is(call, last, b.step(one[2]));
            Due.throwsA(call + ", one on", BEYOND, () -> b.step(one[2] + one[3]));
        }
        StepBench more = Bench.alike(2, 2, 1, 1);
        Due.is("T1: 10^15 - 1", MOST - 1, more.step(MOST / 2 - 1));
        Due.throwsA("T1: 10^15 + 1", BEYOND, () -> more.step(MOST / 2));
        Due.is("T1: 1 - 10^15", 1 - MOST, more.step(-MOST / 2));
        StepBench less = Bench.alike(2, 2, -1, 1);
        Due.throwsA("T1: -10^15 - 1", BEYOND, () -> less.step(-MOST / 2));
        Due.is("T1: 10^15 - 1", MOST - 1, less.step(MOST / 2));
    }

    /** 7 and 11 go into 10^15 + 1, so a list comes to just that. */
    private static void listJustWithinAndBeyond() {
        long parts = (MOST + 1) / 77;
        StepBench b = Bench.withList(77, 1);
        Due.is("T1: 77 by 77 goes into 10^15 + 1", MOST + 1, parts * 77);
        Due.throwsA("T1: of a list, 10^15 + 1", BEYOND, () -> b.step(parts));
        Due.is("T1: of a list, 10^15 - 76", MOST - 76, b.step(parts - 1));
        StepBench ten = Bench.withList(10, 1);
        Due.is("T1: of a list, 10^15", MOST, ten.step(MOST / 10));
        Due.throwsA("T1: of a list, 10^15 + 10", BEYOND, () -> ten.step(MOST / 10 + 1));
        StepBench thirds = Bench.withList(77, 3);
        Due.throwsA("T1: of a list by thirds, 10^15 + 1", BEYOND, () -> thirds.step(parts * 3));
        Due.is("T1: of a list by thirds, 10^15 - 76", MOST - 76, thirds.step(parts * 3 - 3));
    }

    /** "(All other sums are exact, however large.)" */
    private static void exactHoweverLarge() {
        StepBench same = Bench.alike(2, 1000, 0, 1000);
        Due.is("T1: 1000 x / 1000 of 10^15", MOST, same.step(MOST));
        Due.is("T1: 1000 x / 1000 of -10^15", -MOST, same.step(-MOST));
        Due.is("T1: back of it", 1, same.back(MOST));
        Due.row("T1: back of it", same, MOST);
        StepBench on = Bench.alike(2, 1000, 1000, 1000);
        Due.is("T1: (1000 x + 1000) / 1000", MOST, on.step(MOST - 1));
        Due.is("T1: (1000 x + 1000) / 1000 of -10^15", 1 - MOST, on.step(-MOST));
        Due.throwsA("T1: (1000 x + 1000) / 1000 of 10^15", BEYOND, () -> on.step(MOST));
        Due.is("T1: back of 10^15", 1, on.back(MOST));
        Due.row("T1: back of 10^15", on, MOST - 1);
        Due.is("T1: back of -10^15", 0, on.back(-MOST));
        StepBench large = Bench.withList(1000000000, 999999999);
        Due.is("T1: x p is far larger than any long", MOST, large.step(999999999000000L));
        Due.throwsA("T1: and comes beyond", BEYOND, () -> Bench.withList(1000000000, 7).step(7 * (MOST / 7)));
        // 2^35 times 2^29 is 2^64: cut to the 64 bits of a long nothing is left of it.
        Due.throwsA("T1: 2^64 does not wrap round", BEYOND, () -> Bench.withList(1 << 29, 1).step(1L << 35));
        Due.throwsA("T1: nor 2^64 + 2^29", BEYOND, () -> Bench.withList(1 << 29, 1).step((1L << 35) + 1));
    }

    /** "From 0 to m - 1, x less a multiple of m." */
    private static void rests() {
        for (int m : new int[] {2, 3, 10, 63, 64}) {
            long[][] shares = new long[m][];
            for (int r = 0; r < m; r++) {
                shares[r] = Bench.share(0, r, 1);
            }
            StepBench b = Bench.withRule(shares);
            long[] xs = {0, 1, m - 1, m, m + 1, -1, 1 - m, -m, -m - 1, MOST, MOST - 1, -MOST, 1 - MOST};
            for (long x : xs) {
                long due = (x % m + m) % m;
                Due.is("T1: rest of " + x + " by " + m, due, b.step(x));
                b.word(x, 1);
                Due.row("T1: rest of " + x + " by " + m, b, due);
            }
        }
    }

    /** "x from 1 on STEPS .. for x below 1, it ENDS." */
    private static void listsFrom1On() {
        StepBench b = Bench.withList(5, 1);
        Due.is("T1: 1 steps", 5, b.step(1));
        for (long x : new long[] {0, -1, -5, -MOST}) {
            Due.throwsA("T1: " + x + " ends", ENDS, () -> b.step(x));
            Due.is("T1: " + x + " takes no fraction", 0, b.word(x, 5));
            Due.is("T1: " + x + " comes nowhere", -1, b.until(x, 1, 1));
            Due.is("T1: " + x + " comes nowhere below", -1, b.height(x, 1));
            Due.is("T1: " + x + " stays", x, b.peak(x, 5));
            Due.is("T1: " + x + " before any step", x, b.run(x, 0));
        }
        Due.throwsA("T1: without fractions 1 ends", ENDS, () -> Bench.withList().step(1));
    }

    /** "Kept in lowest terms." */
    private static void lowestTerms() {
        long[][] cases = {
            {6, 4, 3, 2}, {1000000000, 1000000000, 1, 1}, {1000000000, 999999999, 1000000000, 999999999},
            {999999999, 3, 333333333, 1}, {3, 999999999, 1, 333333333}, {1, 1, 1, 1}, {1 << 29, 1 << 28, 2, 1}
        };
        for (long[] one : cases) {
            StepBench b = Bench.withList(one[0], one[1]);
            Due.is("T1: p of " + one[0] + " / " + one[1], one[2], b.told(0, 0));
            Due.is("T1: q of " + one[0] + " / " + one[1], one[3], b.told(0, 1));
        }
        Due.is("T1: 6 / 4 is whole for 2", 3, Bench.withList(6, 4).step(2));
    }

    /** "By the first fraction by which that is whole; by none .. it ENDS." */
    private static void firstFraction() {
        StepBench b = new StepBench();
        b.list();
        for (int i = 0; i < 39; i++) {
            b.fraction(1, 1000 + i);
        }
        b.fraction(9, 7);
        Due.is("T1: by the last of 40", 9, b.step(7));
        Due.is("T1: by the last but one", 7, b.step(7 * 1038));
        Due.is("T1: by the first", 1039, b.step(1039000));
        Due.throwsA("T1: by none of 40", ENDS, () -> b.step(11));
    }
}
