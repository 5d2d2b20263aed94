/** Promises 24 to 30, sentence by sentence, where they name an edge. */
public final class EdgesOfBackTest {
    private static final long MOST = 1000000000000000L;

    public static void main(String[] args) {
        backNone();
        backOfNumbersOnly();
        backByRests();
        backOfAllRests();
        wholeAsBits();
        wholeOfNoRule();
        backsOfNoneToTwenty();
        backsOf1000();
        backsAtSomeDepth();
        backsWithinNumbers();
        bothNoneOrZero();
        bothHoweverLarge();
        bothUpTo100000();
        bothOfManyRests();
        turnUpTo64();
        turnNone();
        turnInLowestTerms();
        driftNone();
        driftHoweverClose();
        fixedOfOthersThanD();
        fixedAscending();
        Due.close("EdgesOfBackTest");
    }

    // ---- 24: back

    /** "NONE: THE RULE is no RULE, x is no NUMBER." */
    private static void backNone() {
        Due.is("24: no rule", -1, new StepBench().back(0));
        Due.is("24: a list", -1, Bench.withList(1, 1).back(1));
        StepBench behind = Bench.threeHalves();
        behind.back(8);
        behind.list();
        Due.is("24: a list behind a rule", -1, behind.back(1));
        Due.row("24: the row stays", behind, 5, 16);
        StepBench x = Bench.threeHalves();
        x.back(8);
        for (long no : new long[] {MOST + 1, -MOST - 1, Long.MIN_VALUE, Long.MAX_VALUE}) {
            Due.is("24: back(" + no + ")", -1, x.back(no));
            Due.row("24: the row stays", x, 5, 16);
        }
    }

    /** "All NUMBERS that STEP to x": none beyond. */
    private static void backOfNumbersOnly() {
        StepBench on = Bench.alike(2, 1, 1, 1);
        Due.is("24: x + 1, of 10^15", 1, on.back(MOST));
        Due.row("24: x + 1, of 10^15", on, MOST - 1);
        Due.is("24: x + 1, of 1 - 10^15", 1, on.back(1 - MOST));
        Due.row("24: x + 1, of 1 - 10^15", on, -MOST);
        Due.is("24: x + 1, of -10^15", 0, on.back(-MOST));
        Due.row("24: x + 1, of -10^15", on);
        StepBench off = Bench.alike(2, 1, -1, 1);
        Due.is("24: x - 1, of 10^15 - 1", 1, off.back(MOST - 1));
        Due.row("24: x - 1, of 10^15 - 1", off, MOST);
        Due.is("24: x - 1, of 10^15", 0, off.back(MOST));
        Due.row("24: x - 1, of 10^15", off);
        StepBench half = Bench.withRule(Bench.share(1, 0, 2), Bench.share(1, -1, 2));
        Due.is("24: x / 2, of half of 10^15", 1, half.back(MOST / 2));
        Due.row("24: 10^15, and 10^15 + 1 is none", half, MOST);
        Due.is("24: x / 2, of one less", 2, half.back(MOST / 2 - 1));
        Due.row("24: both", half, MOST - 2, MOST - 1);
        Due.is("24: x / 2, of one more", 0, half.back(MOST / 2 + 1));
        Due.is("24: x / 2, of half of -10^15", 2, half.back(-MOST / 2));
        Due.row("24: both", half, -MOST, 1 - MOST);
        Due.is("24: x / 2, of one less", 0, half.back(-MOST / 2 - 1));
        StepBench same = Bench.alike(2, 1000, 1000, 1000);
        Due.is("24: 10^15 by 1000 is no matter", 1, same.back(MOST));
        Due.row("24: 10^15 by 1000 is no matter", same, MOST - 1);
    }

    /** "By RESTS whose a is not 0, ascending." */
    private static void backByRests() {
        StepBench x = Bench.withRule(Bench.share(0, 4, 1), Bench.share(1, 3, 1), Bench.share(-1, 6, 1));
        Due.is("24: 3, 1 and 2 step to 4, 3 by an a that is 0", 2, x.back(4));
        Due.row("24: 1 and 2", x, 1, 2);
        Due.is("24: 4 by x + 3 and -1 by 6 - x", 2, x.back(7));
        Due.row("24: ascending", x, -1, 4);
        StepBench y = Bench.withRule(Bench.share(-1, 10, 1), Bench.share(1, 0, 1));
        Due.is("24: 10 - x first, that is less", 1, y.back(20));
        Due.row("24: 10 - x", y, -10);
        Due.is("24: 1 by its own rest alone", 1, y.back(1));
        Due.row("24: 1, and 9 is odd", y, 1);
        Due.is("24: -10 by 10 - x", 1, y.back(-10));
        Due.row("24: 20", y, 20);
        StepBench z = Bench.withRule(Bench.share(-1, 10, 1), Bench.share(1, 1, 1));
        Due.is("24: 8 and 1 to 2", 2, z.back(2));
        Due.row("24: ascending", z, 1, 8);
        Due.is("24: 0 and 9 to 10", 2, z.back(10));
        Due.row("24: ascending", z, 0, 9);
        Due.is("24: none to 3", 0, z.back(3));
        Due.row("24: none", z);
    }

    private static void backOfAllRests() {
        long[][] shares = new long[64][];
        for (int r = 0; r < 64; r++) {
            shares[r] = Bench.share(1, -r * 9, 1);
        }
        StepBench x = Bench.withRule(shares);
        // x - 9 r is 0 for x = 9 r, which is of rest r for every eighth r alone.
        Due.is("24: every eighth rest", 8, x.back(0));
        Due.row("24: every eighth rest", x, 0, 72, 144, 216, 288, 360, 432, 504);
        for (int r = 0; r < 64; r++) {
            shares[r] = Bench.share(r % 2 == 0 ? 1 : -1, r % 2 == 0 ? 64 * 15 - r : 64 * 15 + r - 64 * (r / 16), 1);
        }
        StepBench y = Bench.withRule(shares);
        Due.is("24: of all 64 rests", 64, y.back(960));
        for (int i = 1; i < 64; i++) {
            Due.is("24: ascending at " + i, true, y.row(i - 1) < y.row(i));
        }
        Due.throwsA("24: not more", "NoSuchElementException", () -> y.row(64));
    }

    // ---- 25: whole

    /** "RESTS whose a is 0 and that STEP to x: as bits, REST 0 the lowest." */
    private static void wholeAsBits() {
        for (int at = 0; at < 64; at++) {
            long[][] shares = new long[64][];
            for (int r = 0; r < 64; r++) {
                shares[r] = r == at ? Bench.share(0, 12, 4) : Bench.share(1, 3 - r, 1);
            }
            StepBench x = Bench.withRule(shares);
            Due.is("25: rest " + at, 1L << at, x.whole(3));
            Due.is("25: not of b itself", 0, x.whole(12));
        }
        StepBench all = Bench.alike(64, 0, -1000, 1);
        Due.is("25: all 64", -1, all.whole(-1000));
        Due.is("25: of 1000 none", 0, all.whole(1000));
        Due.is("25: of -999 none", 0, all.whole(-999));
        StepBench two = Bench.withRule(Bench.share(0, 1000, 1000), Bench.share(0, -1000, 1000));
        Due.is("25: 1", 1, two.whole(1));
        Due.is("25: -1", 2, two.whole(-1));
        Due.is("25: 0", 0, two.whole(0));
        for (long no : new long[] {MOST, MOST + 1, Long.MIN_VALUE, Long.MAX_VALUE, (1L << 32) + 1}) {
            Due.is("25: whole(" + no + ")", 0, two.whole(no));
        }
    }

    private static void wholeOfNoRule() {
        Due.is("25: no rule", 0, new StepBench().whole(0));
        Due.is("25: no rule", 0, new StepBench().whole(1));
        StepBench x = Bench.alike(5, 0, 7, 1);
        Due.is("25: a rule", 31, x.whole(7));
        x.draft(2);
        Due.is("25: a draft beside it", 31, x.whole(7));
        x.list();
        Due.is("25: a list behind it", 0, x.whole(7));
        x.seal();
        Due.is("25: a rule without an a that is 0", 0, x.whole(0));
    }

    // ---- 26: backs

    /** "k STEPS (0 .. 20) back .. NONE as back(), another k." */
    private static void backsOfNoneToTwenty() {
        StepBench x = Bench.alike(2, 1, 1, 1);
        for (int k = 0; k <= 20; k++) {
            Due.is("26: backs(5, " + k + ")", 1, x.backs(5, k));
        }
        for (int k : new int[] {-1, 21, 22, Integer.MIN_VALUE, Integer.MAX_VALUE}) {
            Due.is("26: backs(5, " + k + ")", -1, x.backs(5, k));
        }
        for (int k : new int[] {0, 1, 20}) {
            Due.is("26: no rule", -1, new StepBench().backs(5, k));
            Due.is("26: a list", -1, Bench.withList(1, 1).backs(5, k));
            Due.is("26: no number", -1, x.backs(MOST + 1, k));
            Due.is("26: no number below", -1, x.backs(-MOST - 1, k));
        }
        StepBench none = Bench.alike(2, 2, 0, 1);
        Due.is("26: 0 steps, though none steps to 5", 1, none.backs(5, 0));
        Due.is("26: 1 step", 0, none.backs(5, 1));
        Due.is("26: 20 steps", 0, none.backs(5, 20));
        Due.is("26: 2^19 has one before 19 steps", 1, none.backs(1 << 19, 19));
        Due.is("26: but not before 20", 0, none.backs(1 << 19, 20));
        StepBench zero = Bench.withRule(Bench.share(0, 5, 1), Bench.share(1, 0, 1));
        Due.is("26: by back() alone", 1, zero.backs(5, 20));
    }

    /**
     * Rests below 2 e, of which those of an even place come of even numbers: an even number has 33 before it,
     * 11 even and 22 odd ones, an odd one has as many as told.
     */
    private static StepBench twoKinds(int evenOfOdd, int oddOfOdd) {
        long[][] shares = new long[64][];
        for (int r = 0; r < 64; r++) {
            int half = r / 2;
            boolean isOdd = r % 2 == 1;
            int ofEven = isOdd ? 22 : 11;
            int ofOdd = isOdd ? oddOfOdd : evenOfOdd;
            // x = 64 y + r steps to 2 y, or to 2 y + 1, or by an a that is 0 to nothing that counts.
            long to = half < ofEven ? 0 : 1;
            shares[r] = half < ofEven + ofOdd ? Bench.share(1, 32 * to - r, 32) : Bench.share(0, 0, 1);
        }
        return Bench.withRule(shares);
    }

    /** "SPENT: there are more than 1000 at some depth." */
    private static void backsOf1000() {
        StepBench more = twoKinds(21, 8);
        Due.is("26: 33 before an even one", 33, more.backs(10, 1));
        Due.is("26: 29 before an odd one", 29, more.backs(11, 1));
        Due.is("26: 1001 is too many", -2, more.backs(10, 2));
        Due.is("26: 11 * 33 + 22 * 28", 979, twoKinds(20, 8).backs(10, 2));
        long[][] ten = new long[10][];
        for (int r = 0; r < 10; r++) {
            ten[r] = Bench.share(1, -r, 10);
        }
        StepBench just = Bench.withRule(ten);
        Due.is("26: 1000 are not", 1000, just.backs(7, 3));
        Due.is("26: 10000 are", -2, just.backs(7, 4));
        Due.is("26: at any depth behind", -2, just.backs(7, 20));
    }

    /** The numbers before x grow tenfold and are cut off at 10^15: few at last, but more than 1000 between. */
    private static void backsAtSomeDepth() {
        long[][] ten = new long[10][];
        for (int r = 0; r < 10; r++) {
            ten[r] = Bench.share(1, -r, 10);
        }
        StepBench x = Bench.withRule(ten);
        long low = MOST / 1000;
        Due.is("26: 1000 before 10^12 - 1", 1000, x.backs(low - 1, 3));
        Due.is("26: none of them has one", 0, x.backs(low - 1, 4));
        Due.is("26: nor any at depth 20", 0, x.backs(low - 1, 20));
        Due.is("26: 10^12 has 10^15 alone", 1, x.backs(low, 3));
        Due.is("26: 10000 before 10^11 - 1, and none behind them", -2, x.backs(low / 10 - 1, 20));
    }

    private static void backsWithinNumbers() {
        StepBench on = Bench.alike(2, 1, 1, 1);
        Due.is("26: 20 back to the least", 1, on.backs(20 - MOST, 20));
        Due.is("26: 20 back to beyond", 0, on.backs(19 - MOST, 20));
        StepBench off = Bench.alike(2, 1, -1, 1);
        Due.is("26: 20 back to the greatest", 1, off.backs(MOST - 20, 20));
        Due.is("26: 20 back to beyond", 0, off.backs(MOST - 19, 20));
    }

    // ---- 27: both

    /** "0 (also if an a is 0, asked first). NONE: THE RULE is no RULE." */
    private static void bothNoneOrZero() {
        Due.is("27: no rule", -1, new StepBench().both());
        Due.is("27: a list", -1, Bench.withList(1, 1).both());
        StepBench behind = Bench.alike(2, 1, 0, 1);
        behind.list();
        Due.is("27: a list behind a rule", -1, behind.both());
        for (int at : new int[] {0, 1, 31, 63}) {
            long[][] shares = new long[64][];
            for (int r = 0; r < 64; r++) {
                shares[r] = r == at ? Bench.share(0, at, 1) : Bench.share(1, 0, 1);
            }
            Due.is("27: an a is 0 at " + at, 0, Bench.withRule(shares).both());
            for (int r = 0; r < 64; r++) {
                shares[r] = r == at ? Bench.share(0, 0, 1) : Bench.share(937 + r, 0, 1);
            }
            Due.is("27: asked ahead of M at " + at, 0, Bench.withRule(shares).both());
        }
    }

    /** "Each whole number (however large) has just one before it." */
    private static void bothHoweverLarge() {
        Due.is("27: x + 1000", 1, Bench.alike(64, 1, 1000, 1).both());
        Due.is("27: 1000 - x", 1, Bench.alike(64, -1, 1000, 1).both());
        Due.is("27: 0 has none before it, and 64 two", 0, Bench.withRule(swapped(64)).both());
        Due.is("27: 0 has none before it, and 320 two", 0, Bench.withRule(swapped(320)).both());
        Due.is("27: nor are they too far", 0, Bench.withRule(swapped(960)).both());
        Due.is("27: each rest on its own way", 1, Bench.withRule(shifted(64, 3)).both());
        long[][] twice = shifted(64, 3);
        twice[10][1]++;
        Due.is("27: and two of them on one", 0, Bench.withRule(twice).both());
    }

    /** Nothing but rest 0 steps on, by so much and one. */
    private static long[][] swapped(long by) {
        long[][] shares = new long[64][];
        for (int r = 0; r < 64; r++) {
            shares[r] = Bench.share(1, r == 0 ? by + 1 : 0, 1);
        }
        return shares;
    }

    /** Rest r steps to rest r + s, and each by another multiple of m. */
    private static long[][] shifted(int m, int by) {
        long[][] shares = new long[m][];
        for (int r = 0; r < m; r++) {
            shares[r] = Bench.share(1, by + 64 * (r % 9 - 4), 1);
        }
        return shares;
    }

    private static long[][] firstTwo(int m, long a0, long a1) {
        long[][] shares = new long[m][];
        for (int r = 0; r < m; r++) {
            shares[r] = Bench.share(r == 0 ? a0 : r == 1 ? a1 : 1, 0, 1);
        }
        return shares;
    }

    /** "SPENT: M, the least common multiple of all a * m / d that are not 0 (by their sizes), is above 100000." */
    private static void bothUpTo100000() {
        Due.is("27: M is 100000", 0, Bench.withRule(firstTwo(25, 125, 32)).both());
        Due.is("27: M is 100000 by sizes", 0, Bench.withRule(firstTwo(25, -125, -32)).both());
        Due.is("27: M is 100005", -2, Bench.withRule(firstTwo(15, 59, 113)).both());
        Due.is("27: M is 100005 by sizes", -2, Bench.withRule(firstTwo(15, -59, 113)).both());
        Due.is("27: M is 15 * 59 * 112", 0, Bench.withRule(firstTwo(15, 59, 112)).both());
        Due.is("27: M is 15 * 59 * 111, that is odd", 0, Bench.withRule(firstTwo(15, 59, 111)).both());
        long[][] later = firstTwo(25, 125, 32);
        later[24] = Bench.share(3, 0, 1);
        Due.is("27: M is 100000 and then 300000", -2, Bench.withRule(later).both());
        later[24] = Bench.share(5, 0, 1);
        Due.is("27: M is 100000 and stays so", 0, Bench.withRule(later).both());
        Due.is("27: not the product, 64 * 250", 0, Bench.alike(64, 250, 0, 1).both());
        Due.is("27: a is 1000 everywhere, M is 64000", 0, Bench.alike(64, 1000, 0, 1).both());
    }

    /** The whole numbers in classes by 2, 4, 8 .. 32768, some of them split by 64 and 16: one for each rest. */
    private static void bothOfManyRests() {
        long[][] classes = manyClasses();
        Due.is("27: M is 32768", 1, Bench.withRule(sharesFor(classes)).both());
        Due.is("28: that is too much to turn", -1, Bench.withRule(sharesFor(classes)).turn());
        for (long[] one : classes) {
            if (one[1] == 16384) {
                one[0]++;
            }
        }
        Due.is("27: 8192 has none before it, 8193 two", 0, Bench.withRule(sharesFor(classes)).both());
    }

    /** For each rest the first number and the distance of the class that it steps to. */
    private static long[][] manyClasses() {
        long[][] classes = new long[64][];
        // Rests near 32 for the rows that lie far apart, so that no b grows too large.
        int[] farRests = {37, 28, 36, 29, 35, 38, 34, 30, 33, 31, 32};
        for (int i = 0; i < farRests.length; i++) {
            classes[farRests[i]] = new long[] {16L << i, 32L << i};
        }
        classes[0] = new long[] {0, 32768};
        // Odd numbers by 64, those of 2 by 64, those of 4 by 16, and those of 8 by 32 instead of 16.
        classes[27] = new long[] {8, 32};
        classes[39] = new long[] {24, 32};
        long[][] near = new long[50][];
        int n = 0;
        for (int i = 1; i < 64; i += 2) {
            near[n++] = new long[] {i, 64};
        }
        for (int i = 2; i < 64; i += 4) {
            near[n++] = new long[] {i, 64};
        }
        near[n++] = new long[] {4, 16};
        near[n++] = new long[] {12, 16};
        int at = 0;
        for (int r = 0; r < 64; r++) {
            if (classes[r] == null) {
                classes[r] = near[at++];
            }
        }
        return classes;
    }

    private static long[][] sharesFor(long[][] classes) {
        long[][] shares = new long[64][];
        for (int r = 0; r < 64; r++) {
            long distance = classes[r][1];
            long d = distance < 64 ? 64 / distance : 1;
            long a = distance * d / 64;
            long b = Math.floorMod(d * classes[r][0] - a * r, a * 64);
            shares[r] = Bench.share(a, b > 1000 ? b - a * 64 : b, d);
        }
        return shares;
    }

    // ---- 28: turn

    /** Numbers by 5, one class of them split in so many: each rest of these by its own one. */
    private static StepBench fifths(int parts) {
        int m = 4 + parts;
        long[][] shares = new long[m][];
        for (int r = 0; r < m; r++) {
            long to = r < 4 ? r : 4 + 5 * (r - 4);
            long a = r < 4 ? 5 : 5 * parts;
            shares[r] = Bench.share(a, m * to - a * r, m);
        }
        return Bench.withRule(shares);
    }

    /** "Of MEASURE M .. NONE: .. M is above 64." */
    private static void turnUpTo64() {
        StepBench sixty = fifths(12);
        Due.is("27: by 5 and by 60", 1, sixty.both());
        Due.is("28: M is 60", 60, sixty.turn());
        Due.is("9: the measure is", 60, sixty.count(1));
        StepBench more = fifths(13);
        Due.is("27: by 5 and by 65", 1, more.both());
        Due.is("28: M is 65", -1, more.turn());
        Due.is("28: the rule stays", 17, more.count(1));
        Due.is("28: with its shares", 65, more.told(16, 0));
        StepBench all = Bench.alike(64, 1, 1, 1);
        Due.is("28: M is 64", 64, all.turn());
        Due.is("28: x - 1", -1, all.told(63, 1));
        Due.is("28: of rest 0 too", -1, all.step(0));
        StepBench two = Bench.alike(2, 1, 1, 1);
        Due.is("28: M is 2", 2, two.turn());
    }

    /** "NONE: both() is not 1 .. (THE RULE stays)." */
    private static void turnNone() {
        Due.is("28: no rule", -1, new StepBench().turn());
        StepBench list = Bench.withList(1, 1);
        Due.is("28: a list", -1, list.turn());
        Due.is("28: the list stays", 1, list.count(2));
        StepBench zero = Bench.threeHalves();
        Due.is("28: both() is 0", -1, zero.turn());
        Due.row("28: told(0, ..)", word(zero), 1, 0);
        Due.is("28: the rule stays, a", 3, zero.told(1, 0));
        Due.is("28: the rule stays, b", 1, zero.told(1, 1));
        Due.is("28: the rule stays, d", 2, zero.told(1, 2));
        StepBench spent = Bench.withRule(firstTwo(15, 59, 113));
        Due.is("28: both() is -2", -1, spent.turn());
        Due.is("28: the rule stays", 113, spent.told(1, 0));
        StepBench none = Bench.withRule(Bench.share(0, 1, 1), Bench.share(1, 0, 1));
        Due.is("28: an a is 0", -1, none.turn());
        Due.is("28: the rule stays", 1, none.told(0, 1));
    }

    private static StepBench word(StepBench x) {
        x.word(1, 2);
        return x;
    }

    /** "For each REST in lowest terms (a, b, d without a common divisor, d above 0)." */
    private static void turnInLowestTerms() {
        StepBench y = Bench.alike(2, -1000, 1000, 1000);
        Due.is("28: 1 - x", 2, y.turn());
        for (int r = 0; r < 2; r++) {
            Due.is("28: a", -1, y.told(r, 0));
            Due.is("28: b", 1, y.told(r, 1));
            Due.is("28: d", 1, y.told(r, 2));
        }
        StepBench z = Bench.withRule(Bench.share(-12, 24, 8), Bench.share(-6, 14, 8), Bench.share(-12, 24, 8),
            Bench.share(-6, 10, 8));
        Due.is("28: -3 x / 2 and -3 x / 4", 6, z.turn());
        long[][] due = {{-2, 6, 3}, {-4, 7, 3}, {-4, 5, 3}, {-2, 6, 3}, {-4, 7, 3}, {-4, 5, 3}};
        for (int r = 0; r < 6; r++) {
            for (int what = 0; what < 3; what++) {
                Due.is("28: told(" + r + ", " + what + ")", due[r][what], z.told(r, what));
            }
        }
        Due.is("28: and back again, by twice as many rests", 8, z.turn());
        long[][] again = {{-3, 6, 2}, {-3, 7, 4}, {-3, 6, 2}, {-3, 5, 4}};
        for (int r = 0; r < 8; r++) {
            for (int what = 0; what < 3; what++) {
                Due.is("28: again, told(" + r + ", " + what + ")", again[r % 4][what], z.told(r, what));
            }
        }
    }

    // ---- 29: drift

    /** "-2: THE RULE is no RULE, or an a is 0." */
    private static void driftNone() {
        Due.is("29: no rule", -2, new StepBench().drift());
        Due.is("29: a list", -2, Bench.withList(2, 1).drift());
        StepBench behind = Bench.alike(2, 2, 0, 1);
        behind.list();
        Due.is("29: a list behind a rule", -2, behind.drift());
        for (int at : new int[] {0, 1, 63}) {
            long[][] shares = new long[64][];
            for (int r = 0; r < 64; r++) {
                shares[r] = Bench.share(r == at ? 0 : 1000, 0, 1);
            }
            Due.is("29: an a is 0 at " + at, -2, Bench.withRule(shares).drift());
        }
    }

    /** "The product of all SHARES' sizes against 1: 1 greater, 0 like, -1 less": exact, however large. */
    private static void driftHoweverClose() {
        Due.is("29: 2", 1, Bench.withRule(Bench.share(2, 0, 1), Bench.share(1, 0, 1)).drift());
        Due.is("29: 1 / 2", -1, Bench.withRule(Bench.share(1, 0, 2), Bench.share(1, 0, 1)).drift());
        Due.is("29: 1", 0, Bench.withRule(Bench.share(1, 0, 1), Bench.share(1, 1, 1)).drift());
        Due.is("29: 1000 / 999", 1, Bench.withRule(Bench.share(1000, 0, 1), Bench.share(999, 0, 999)).drift());
        Due.is("29: 1000^64", 1, Bench.alike(64, 1000, 0, 1).drift());
        Due.is("29: (-1000)^64", 1, Bench.alike(64, -1000, 0, 1).drift());
        Due.is("29: 1000^64 / 1000^64", 0, Bench.alike(64, 1000, 0, 1000).drift());
        Due.is("29: (-1000)^63 / 1000^63", 0, Bench.alike(63, -1000, 0, 1000).drift());
        long[][] shares = new long[64][];
        for (int r = 0; r < 64; r++) {
            shares[r] = Bench.share(1, -r, 64);
        }
        Due.is("29: 1 / 64^64", -1, Bench.withRule(shares).drift());
        // Each product is a power of 2 with far more than 64 bits: cut to these nothing is left of it.
        for (int r = 0; r < 64; r++) {
            shares[r] = Bench.share(r == 0 ? 1 : 4, 0, 4);
        }
        Due.is("29: one quarter of 4^64", -1, Bench.withRule(shares).drift());
        shares[1] = Bench.share(16, 0, 4);
        Due.is("29: a quarter and four", 0, Bench.withRule(shares).drift());
        shares[2] = Bench.share(-5, 2, 4);
        Due.is("29: and five quarters", 1, Bench.withRule(shares).drift());
        long[] exact = {673, 257, 241, 97, 17, 13, 35, 9};
        for (int r = 0; r < 64; r++) {
            shares[r] = r < 8
                ? Bench.share(exact[r], Math.floorMod(-exact[r] * r, 64L), 64)
                : Bench.share(1000, 0, 1000);
        }
        Due.is("29: one 2^48th below 1", -1, Bench.withRule(shares).drift());
        for (int r = 0; r < 64; r++) {
            long a = r == 0 ? 65 : r == 1 ? 63 : 64;
            shares[r] = Bench.share(a, Math.floorMod(-a * r, 64L), 64);
        }
        Due.is("29: 4095 / 4096", -1, Bench.withRule(shares).drift());
        shares[1] = Bench.share(-64, 0, 64);
        Due.is("29: 65 / 64", 1, Bench.withRule(shares).drift());
    }

    // ---- 30: fixed

    /** "By RESTS for which a is not d .. NONE: THE RULE is no RULE." */
    private static void fixedOfOthersThanD() {
        Due.is("30: no rule", -1, new StepBench().fixed());
        StepBench list = Bench.alike(2, 2, 0, 1);
        list.fixed();
        list.list();
        Due.is("30: a list behind a rule", -1, list.fixed());
        Due.row("30: the row stays", list, 0);
        StepBench x = Bench.withRule(
            Bench.share(1, 0, 1), Bench.share(7, 0, 7), Bench.share(1, 3, 1), Bench.share(-1, 6, 1));
        Due.is("30: 3 alone, though all of rests 0 and 1 stay", 1, x.fixed());
        Due.row("30: 3", x, 3);
        StepBench y = Bench.alike(64, 5, 0, 5);
        Due.is("30: all stay, none is told", 0, y.fixed());
        Due.row("30: the row is empty then", y);
        x.draft(2);
        x.seal();
        Due.is("30: none", 0, x.fixed());
        Due.row("30: the row is empty then, too", x);
    }

    /** "All NUMBERS that STEP to themselves .. ascending: how many." */
    private static void fixedAscending() {
        long[][] shares = new long[64][];
        for (int r = 0; r < 64; r++) {
            shares[r] = Bench.share(0, r + 64 * (7 - r % 15), 1);
        }
        StepBench x = Bench.withRule(shares);
        Due.is("30: one for each rest", 64, x.fixed());
        long before = Long.MIN_VALUE;
        for (int i = 0; i < 64; i++) {
            long one = x.row(i);
            Due.is("30: ascending at " + i, true, before < one);
            Due.is("30: stays", one, x.step(one));
            before = one;
        }
        StepBench far = Bench.withRule(Bench.share(0, 1000, 1), Bench.share(2, -999, 1));
        Due.is("30: 1000 and 999", 2, far.fixed());
        Due.row("30: 1000 and 999", far, 999, 1000);
        StepBench low = Bench.withRule(Bench.share(2, 1000, 1), Bench.share(0, -999, 1));
        Due.is("30: -1000 and -999", 2, low.fixed());
        Due.row("30: -1000 and -999", low, -1000, -999);
        StepBench none = Bench.withRule(Bench.share(2, 999, 1), Bench.share(0, -1000, 1));
        Due.is("30: both of the other rest", 0, none.fixed());
        StepBench half = Bench.withRule(Bench.share(1, -2, 2), Bench.share(1, 3, 2));
        Due.is("30: (x - 2) / 2 and (x + 3) / 2", 2, half.fixed());
        Due.row("30: -2 and 3", half, -2, 3);
        StepBench third = Bench.withRule(Bench.share(-2, 4, 1), Bench.share(-2, 5, 1));
        Due.is("30: 4 / 3 and 5 / 3 are not whole", 0, third.fixed());
        StepBench zero = Bench.withRule(Bench.share(-1, 0, 1), Bench.share(-1, 2, 1));
        Due.is("30: 0 and 1", 2, zero.fixed());
        Due.row("30: 0 and 1", zero, 0, 1);
    }
}
