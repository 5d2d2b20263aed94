/** Promises 24 to 30: steps back, rules that can be gone back, shares weighed, numbers that stay. */
public final class BackTest {
    private static final long MOST = 1000000000000000L;

    public static void main(String[] args) {
        back();
        backBeyond();
        whole();
        backs();
        both();
        bothSpent();
        turn();
        turnRefused();
        drift();
        driftNearOne();
        fixed();
        Due.close("BackTest");
    }

    private static void back() {
        Due.is("24: no rule", -1, new StepBench().back(1));
        Due.is("24: a list", -1, Bench.withList(1, 2).back(1));
        StepBench x = Bench.threeHalves();
        Due.is("24: back(8)", 2, x.back(8));
        Due.row("24: back(8)", x, 5, 16);
        Due.is("24: no number", -1, x.back(MOST + 1));
        Due.is("24: no number", -1, x.back(Long.MIN_VALUE));
        Due.row("24: the row before stays", x, 5, 16);
        Due.is("24: back(0)", 1, x.back(0));
        Due.row("24: back(0)", x, 0);
        Due.is("24: back(-1)", 2, x.back(-1));
        Due.row("24: back(-1)", x, -2, -1);
        Due.is("24: back(-10)", 2, x.back(-10));
        Due.row("24: back(-10)", x, -20, -7);
        StepBench y = Bench.withRule(
            Bench.share(-1, 12, 1), Bench.share(0, 12, 1), Bench.share(2, 8, 1), Bench.share(1, 0, 1));
        Due.is("24: back(12)", 2, y.back(12));
        Due.row("24: not by the a that is 0, ascending", y, 0, 2);
        Due.is("24: back(16)", 1, y.back(16));
        Due.row("24: back(16), by an a below 0", y, -4);
        Due.is("24: none", 0, y.back(13));
        Due.row("24: none", y);
    }

    private static void backBeyond() {
        StepBench x = Bench.threeHalves();
        Due.is("24: of the greatest", 0, x.back(MOST));
        Due.is("24: of half of it", 2, x.back(MOST / 2));
        Due.row("24: the greatest itself", x, 333333333333333L, MOST);
        Due.is("24: one more would be beyond", 0, x.back(MOST / 2 + 1));
        Due.is("24: down to the least", 1, Bench.alike(3, -1, 0, 1).back(MOST));
        StepBench y = Bench.alike(2, 1, -1, 1);
        Due.is("24: one more", 0, y.back(MOST));
        Due.is("24: up to the greatest", 1, y.back(MOST - 1));
        StepBench many = Bench.alike(64, 2, 0, 2);
        Due.is("24: of 64 rests, one", 1, many.back(77));
        long[][] shares = new long[64][];
        for (int r = 0; r < 64; r++) {
            shares[r] = Bench.share(r % 2 == 0 ? -1 : 1, r % 2 == 0 ? 500 + r : 500 - r, 1);
        }
        StepBench full = Bench.withRule(shares);
        Due.is("24: of 64 rests, all", 64, full.back(500));
        for (int r = 0; r < 64; r++) {
            Due.is("24: ascending", r, full.row(r));
        }
    }

    private static void whole() {
        Due.is("25: no rule", 0, new StepBench().whole(0));
        Due.is("25: a list", 0, Bench.withList(1, 2).whole(1));
        StepBench x = Bench.withRule(
            Bench.share(0, 6, 2), Bench.share(1, 0, 1), Bench.share(0, 3, 1), Bench.share(0, -3, 1));
        Due.is("25: whole(3)", 5, x.whole(3));
        Due.is("25: whole(-3)", 8, x.whole(-3));
        Due.is("25: whole(1)", 0, x.whole(1));
        Due.is("25: whole(6)", 0, x.whole(6));
        Due.is("25: no number", 0, x.whole(MOST + 1));
        Due.is("25: no number", 0, x.whole(Long.MIN_VALUE + 3));
        Due.is("25: all of 64", -1L, Bench.alike(64, 0, 0, 9).whole(0));
        long[][] shares = new long[64][];
        for (int r = 0; r < 64; r++) {
            shares[r] = r == 63 || r == 31 ? Bench.share(0, -1000, 1) : Bench.share(1, 0, 1);
        }
        Due.is("25: rests 31 and 63", Long.MIN_VALUE + (1L << 31), Bench.withRule(shares).whole(-1000));
        StepBench y = Bench.withRule(Bench.share(0, 4, 1), Bench.share(1, 0, 1));
        y.fixed();
        y.whole(4);
        Due.row("25: the row stays", y, 4);
    }

    private static void backs() {
        Due.is("26: no rule", -1, new StepBench().backs(1, 0));
        Due.is("26: a list", -1, Bench.withList(1, 2).backs(1, 0));
        StepBench x = Bench.threeHalves();
        for (int k : new int[] {-1, 21, Integer.MAX_VALUE}) {
            Due.is("26: k " + k, -1, x.backs(1, k));
        }
        Due.is("26: no number", -1, x.backs(MOST + 1, 0));
        // 1; 2; 4 and 1; 8 and 2; 16, 5, 4, 1; ..
        int[] due = {1, 1, 2, 2, 4, 5, 8};
        for (int k = 0; k < due.length; k++) {
            Due.is("26: backs(1, " + k + ")", due[k], x.backs(1, k));
        }
        x.fixed();
        x.backs(1, 5);
        Due.row("26: the row stays", x, -1, 0);
        Due.is("26: none at last", 0, Bench.alike(2, 2, 0, 1).backs(8, 4));
        Due.is("26: of nothing nothing", 0, Bench.alike(2, 2, 0, 1).backs(8, 20));
        Due.is("26: up to the least", 1, Bench.alike(2, 1, 1, 1).backs(-MOST + 7, 7));
        Due.is("26: and beyond", 0, Bench.alike(2, 1, 1, 1).backs(-MOST + 7, 8));
        Due.is("26: not by an a that is 0", 0,
            Bench.withRule(Bench.share(0, 1, 1), Bench.share(2, 1, 1)).backs(1, 1));
        backsSpent();
    }

    /** Each number has as many before it as there are rests: 10 of these. */
    private static void backsSpent() {
        long[][] shares = new long[10][];
        for (int r = 0; r < 10; r++) {
            shares[r] = Bench.share(1, -r, 10);
        }
        StepBench ten = Bench.withRule(shares);
        Due.is("26: 1000", 1000, ten.backs(5, 3));
        Due.is("26: 10000", -2, ten.backs(5, 4));
        Due.is("26: ever", -2, ten.backs(5, 20));
        Due.is("26: fewer again at the end, but more before", -2, ten.backs(MOST / 10000 - 1, 14));
        long[][] thirtyTwo = new long[32][];
        for (int r = 0; r < 32; r++) {
            thirtyTwo[r] = Bench.share(1, -r, 32);
        }
        Due.is("26: 1024", -2, Bench.withRule(thirtyTwo).backs(5, 2));
        thirtyTwo[3] = Bench.share(0, 7, 1);
        Due.is("26: 961", 961, Bench.withRule(thirtyTwo).backs(5, 2));
    }

    private static void both() {
        Due.is("27: no rule", -1, new StepBench().both());
        Due.is("27: a list", -1, Bench.withList(1, 1).both());
        Due.is("27: halves and three halves", 0, Bench.threeHalves().both());
        Due.is("27: three halves and three quarters", 1, Bench.threeQuarters().both());
        Due.is("27: nothing", 1, Bench.alike(7, 1, 0, 1).both());
        Due.is("27: one on", 1, Bench.alike(64, 1, 1, 1).both());
        Due.is("27: from the other side", 1, Bench.alike(5, -3, 9, 3).both());
        Due.is("27: twice leaves the odd ones", 0, Bench.alike(2, 2, 0, 1).both());
        Due.is("27: two rests to the same", 0,
            Bench.withRule(Bench.share(1, 1, 1), Bench.share(1, 0, 1)).both());
        Due.is("27: two rests changed", 1, Bench.withRule(Bench.share(1, 1, 1), Bench.share(1, -1, 1)).both());
        Due.is("27: an a that is 0", 0,
            Bench.withRule(Bench.share(1, 0, 1), Bench.share(0, 1, 1)).both());
        Due.is("27: the first a is 0", 0, Bench.withRule(Bench.share(0, 1, 1), Bench.share(2, -1, 1)).both());
        Due.is("27: some left, none twice", 0,
            Bench.withRule(Bench.share(2, 0, 1), Bench.share(2, 0, 1)).both());
        Due.is("27: classes by 2, 4 and 4", 1, Bench.withRule(
            Bench.share(2, 0, 3), Bench.share(4, -1, 3), Bench.share(4, 1, 3)).both());
        Due.is("27: two of them meet", 0, Bench.withRule(
            Bench.share(2, 0, 3), Bench.share(4, -4, 3), Bench.share(4, 1, 3)).both());
        Due.is("27: classes by 2, 3 and 6 meet", 0, Bench.withRule(
            Bench.share(2, 0, 3), Bench.share(1, 0, 1), Bench.share(2, 1, 1)).both());
    }

    private static long[][] withFirst(int m, long a0, long a1) {
        long[][] shares = new long[m][];
        for (int r = 0; r < m; r++) {
            shares[r] = Bench.share(r == 0 ? a0 : r == 1 ? a1 : 1, 0, 1);
        }
        return shares;
    }

    private static void bothSpent() {
        Due.is("27: M is 100000", 0, Bench.withRule(withFirst(25, 125, 32)).both());
        Due.is("27: M is 100100", -2, Bench.withRule(withFirst(11, 100, 91)).both());
        Due.is("27: by their sizes", -2, Bench.withRule(withFirst(11, -100, 91)).both());
        Due.is("27: M is far above", -2, Bench.withRule(withFirst(64, 997, 991)).both());
        long[][] zero = withFirst(64, 997, 991);
        zero[63] = Bench.share(0, 0, 1);
        Due.is("27: an a that is 0 is asked first", 0, Bench.withRule(zero).both());
        long[][] primes = new long[64][];
        int p = 1000;
        for (int r = 0; r < 64; r++) {
            primes[r] = Bench.share(p - r, 0, 1);
        }
        Due.is("27: M is larger than any long", -2, Bench.withRule(primes).both());
    }

    private static void turn() {
        StepBench x = Bench.threeQuarters();
        Due.is("28: turn()", 6, x.turn());
        long[][] due = {{2, 0, 3}, {4, -1, 3}, {4, 1, 3}, {2, 0, 3}, {4, -1, 3}, {4, 1, 3}};
        for (int r = 0; r < 6; r++) {
            for (int what = 0; what < 3; what++) {
                Due.is("28: told(" + r + ", " + what + ")", due[r][what], x.told(r, what));
            }
        }
        StepBench there = Bench.threeQuarters();
        for (int i = -50; i <= 50; i++) {
            Due.is("28: there and back from " + i, i, x.step(there.step(i)));
        }
        int[] measures = {8, 12, 16, 24, 32, 48, 64};
        for (int m : measures) {
            Due.is("28: on and on", m, x.turn());
        }
        Due.is("28: it would be 96", -1, x.turn());
        Due.is("28: the rule stays", 64, x.count(1));
        Due.is("28: it can be gone back all the same", 1, x.both());
        Due.is("28: and is the rule there", 9, x.step(6));
        StepBench y = Bench.alike(3, -7, 14, 7);
        Due.is("28: 2 - x", 3, y.turn());
        for (int r = 0; r < 3; r++) {
            Due.is("28: lowest terms, a", -1, y.told(r, 0));
            Due.is("28: lowest terms, b", 2, y.told(r, 1));
            Due.is("28: d above 0", 1, y.told(r, 2));
        }
        StepBench z = Bench.withRule(Bench.share(1, 1, 1), Bench.share(1, -1, 1));
        z.draft(9);
        Due.is("28: two rests changed", 2, z.turn());
        Due.is("28: 4 to 5", 5, z.step(4));
        Due.is("28: the draft stays", 0, z.seal());
        Due.is("28: of its own measure", 9, z.count(1));
    }

    private static void turnRefused() {
        Due.is("28: no rule", -1, new StepBench().turn());
        Due.is("28: a list", -1, Bench.withList(1, 1).turn());
        StepBench x = Bench.threeHalves();
        Due.is("28: both() is 0", -1, x.turn());
        Due.is("28: the rule stays", 3, x.told(1, 0));
        StepBench spent = Bench.withRule(withFirst(11, 100, 91));
        Due.is("28: both() is -2", -1, spent.turn());
        Due.is("28: the rule stays", 100, spent.told(0, 0));
        StepBench large = Bench.alike(2, 1000, 0, 1000);
        Due.is("28: large shares", 2, large.turn());
        Due.is("28: in lowest terms", 1, large.told(0, 2));
        StepBench onlyB = Bench.withRule(Bench.share(1, 1000, 1), Bench.share(1, -1000, 1));
        Due.is("28: large b", 2, onlyB.turn());
        Due.is("28: turned", -1000, onlyB.told(0, 1));
        Due.is("28: turned", 1000, onlyB.told(1, 1));
    }

    private static void drift() {
        Due.is("29: no rule", -2, new StepBench().drift());
        Due.is("29: a list", -2, Bench.withList(1, 2).drift());
        Due.is("29: 3 / 4", -1, Bench.threeHalves().drift());
        Due.is("29: 81 / 64", 1, Bench.threeQuarters().drift());
        Due.is("29: 1", 0, Bench.alike(5, 1, 3, 1).drift());
        Due.is("29: 7 / 7", 0, Bench.alike(64, 7, 0, 7).drift());
        Due.is("29: -7 / 7, by its size", 0, Bench.alike(3, -7, 0, 7).drift());
        Due.is("29: -2, by its size", 1, Bench.alike(3, -2, 0, 1).drift());
        Due.is("29: 2 and 1 / 2", 0, Bench.withRule(Bench.share(1, 0, 2), Bench.share(2, 0, 1)).drift());
        Due.is("29: an a that is 0", -2, Bench.withRule(Bench.share(1, 0, 2), Bench.share(0, 0, 1)).drift());
        Due.is("29: the first a is 0", -2, Bench.withRule(Bench.share(0, 0, 1), Bench.share(2, 0, 1)).drift());
        Due.is("29: the last a is 0", -2,
            Bench.withRule(Bench.share(1, 0, 1), Bench.share(1, 0, 1), Bench.share(0, 0, 1)).drift());
        Due.is("29: as large as can be", 1, Bench.alike(64, 1000, 0, 1).drift());
        Due.is("29: as large on both sides", 0, Bench.alike(64, 1000, 0, 1000).drift());
    }

    /** Of 64 rests the first ones have these a and d 64, the others like a and d. */
    private static StepBench near(long like, long... as) {
        long[][] shares = new long[64][];
        for (int r = 0; r < 64; r++) {
            shares[r] = r < as.length
                ? Bench.share(as[r], Math.floorMod(-as[r] * r, 64L), 64)
                : Bench.share(like, 0, like);
        }
        return Bench.withRule(shares);
    }

    private static void driftNearOne() {
        for (long like : new long[] {1, 997, 1000}) {
            Due.is("29: one 2^48th less", -1, near(like, 673, 257, 241, 97, 17, 13, 35, 9).drift());
            Due.is("29: one 2^24th more", 1, near(like, 97, 257, 673, 1).drift());
            Due.is("29: one 2^36th less", -1, near(like, 109, 73, 37, 57, 65, 63).drift());
            Due.is("29: like", 0, near(like, 128, 32, 512, 8).drift());
            Due.is("29: 65 by 64", 1, near(like, 65).drift());
            Due.is("29: 63 by 64", -1, near(like, 63).drift());
        }
    }

    private static void fixed() {
        Due.is("30: no rule", -1, new StepBench().fixed());
        Due.is("30: a list", -1, Bench.withList(1, 1).fixed());
        StepBench x = Bench.threeQuarters();
        Due.is("30: fixed()", 3, x.fixed());
        Due.row("30: ascending", x, -1, 0, 1);
        StepBench all = Bench.alike(3, 5, 0, 5);
        Due.is("30: a is d", 0, all.fixed());
        Due.row("30: none", all);
        StepBench y = Bench.withRule(Bench.share(0, 6, 1), Bench.share(-1, 8, 1), Bench.share(2, -5, 1));
        Due.is("30: 6, 4 and 5", 3, y.fixed());
        Due.row("30: ascending", y, 4, 5, 6);
        StepBench z = Bench.withRule(Bench.share(0, 7, 1), Bench.share(-1, 4, 1));
        Due.is("30: 7 and 2, both of another rest", 0, z.fixed());
        z.back(-2);
        Due.is("30: none again", 0, z.fixed());
        Due.row("30: a row of its own", z);
        StepBench w = Bench.withRule(Bench.share(3, 4, 1), Bench.share(-1, 2, 1), Bench.share(-1, 1, 1));
        Due.is("30: -2 by another rest, 1", 1, w.fixed());
        Due.row("30: 1", w, 1);
        StepBench one = Bench.withRule(Bench.share(1, 0, 1), Bench.share(1, 0, 1), Bench.share(1, 0, 1),
            Bench.share(-1, 6, 1), Bench.share(1, 0, 1));
        Due.is("30: 3", 1, one.fixed());
        Due.row("30: 3", one, 3);
        StepBench half = Bench.withRule(Bench.share(3, 1, 1), Bench.share(-1, 5, 1));
        Due.is("30: -1 / 2 and 5 / 2 are not whole", 0, half.fixed());
        StepBench large = Bench.withRule(Bench.share(0, -1000, 1), Bench.share(2, 999, 1));
        Due.is("30: -1000 and -999", 2, large.fixed());
        Due.row("30: -1000 and -999", large, -1000, -999);
    }
}
