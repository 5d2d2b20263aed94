/** Promises 17 to 23: words, their shapes and rings, and numbers that fall. */
public final class WordsTest {
    private static final long MOST = 1000000000000000L;

    public static void main(String[] args) {
        rest();
        clear();
        shape();
        shapeTooLarge();
        ring();
        ringBeyond();
        rings();
        ringsSpent();
        falls();
        fallsAreRefused();
        least();
        Due.close("WordsTest");
    }

    private static void rest() {
        StepBench x = new StepBench();
        for (int r : new int[] {-1, 64, Integer.MAX_VALUE, Integer.MIN_VALUE}) {
            Due.is("17: rest(" + r + ")", -1, x.rest(r));
        }
        Due.is("17: none came", 0, x.count(4));
        Due.is("17: rest(0)", 1, x.rest(0));
        Due.is("17: rest(63)", 2, x.rest(63));
        for (int i = 3; i <= 40; i++) {
            Due.is("17: the next one", i, x.rest(i));
        }
        Due.is("17: the 41st", -1, x.rest(1));
        Due.is("17: stays away", 40, x.count(4));
    }

    private static void clear() {
        StepBench x = Bench.threeHalves();
        Due.is("18: of none", 0, x.clear());
        Bench.tellWord(x, 1, 0, 1);
        Due.is("18: of three", 3, x.clear());
        Due.is("18: again", 0, x.clear());
        Due.is("18: then it is empty", 0, x.count(4));
        Due.is("18: no shape", -1, x.shape());
        for (int i = 0; i < 40; i++) {
            x.rest(0);
        }
        Due.is("18: of forty", 40, x.clear());
        Due.is("18: there is room again", 1, x.rest(1));
    }

    private static void shape() {
        StepBench none = new StepBench();
        none.rest(0);
        Due.is("19: no rule", -1, none.shape());
        none.list();
        Due.is("19: a list", -1, none.shape());
        StepBench x = Bench.threeHalves();
        Due.is("19: an empty word", -1, x.shape());
        x.fixed();
        Bench.tellWord(x, 1, 2);
        Due.is("19: a rest that is not below m", -1, x.shape());
        Bench.tellWord(x, 2);
        Due.is("19: nor the first", -1, x.shape());
        Bench.tellWord(x, 63, 1);
        Due.is("19: nor the first of two", -1, x.shape());
        Due.row("19: the row before stays", x, -1, 0);
        long[][] due = {{1, 0, 2}, {3, 1, 2}, {9, 5, 4}, {9, 5, 8}};
        int[][] words = {{0}, {1}, {1, 1}, {1, 1, 0}};
        for (int i = 0; i < words.length; i++) {
            Bench.tellWord(x, words[i]);
            Due.is("19: a word", 1, x.shape());
            Due.row("19: its shape", x, due[i]);
        }
        Bench.tellWord(x, 0, 1);
        Due.is("19: the other way round", 1, x.shape());
        Due.row("19: (3 x + 2) / 4", x, 3, 2, 4);
        StepBench z = Bench.withRule(
            Bench.share(-6, 4, 2), Bench.share(0, -8, 4), Bench.share(2, -4, 2), Bench.share(1, 0, 1));
        shapes(z);
    }

    private static void shapes(StepBench z) {
        Bench.tellWord(z, 0);
        z.shape();
        Due.row("19: lowest terms", z, -3, 2, 1);
        Bench.tellWord(z, 0, 0);
        z.shape();
        Due.row("19: twice", z, 9, -4, 1);
        Bench.tellWord(z, 0, 1);
        z.shape();
        Due.row("19: an a that is 0", z, 0, -2, 1);
        Bench.tellWord(z, 1, 0, 2);
        z.shape();
        Due.row("19: and on from it", z, 0, 6, 1);
        Bench.tellWord(z, 3, 3, 3);
        z.shape();
        Due.row("19: nothing", z, 1, 0, 1);
        StepBench six = Bench.withRule(Bench.share(1, 6, 6), Bench.share(1, 5, 6), Bench.share(1, 4, 6),
            Bench.share(1, 3, 6), Bench.share(1, 2, 6), Bench.share(1, 1, 6));
        Bench.tellWord(six, 0, 0);
        six.shape();
        Due.row("19: (x + 42) / 36", six, 1, 42, 36);
    }

    private static void shapeTooLarge() {
        StepBench x = Bench.withRule(Bench.share(1000, 0, 1), Bench.share(1, 1, 1));
        Bench.tellWord(x, 0, 0, 0, 0, 0);
        Due.is("19: up to 10^15", 1, x.shape());
        Due.row("19: just 10^15", x, MOST, 0, 1);
        x.rest(1);
        Due.is("19: one more", 1, x.shape());
        Due.row("19: 10^15 x + 1", x, MOST, 1, 1);
        x.rest(0);
        Due.is("19: too large", -2, x.shape());
        Due.row("19: the row before stays", x, MOST, 1, 1);
        StepBench d = Bench.withRule(Bench.share(1, 0, 2), Bench.share(2, 0, 2));
        d.clear();
        for (int i = 1; i <= 40; i++) {
            d.rest(i % 2 == 0 ? 1 : 0);
        }
        Due.is("19: divisors up to 2^20", 1, d.shape());
        Due.row("19: of all that is halved", d, 1, 0, 1 << 20);
        StepBench down = Bench.alike(2, 0, 0, 1);
        Bench.setRule(down, Bench.share(500, 0, 1000), Bench.share(1000, 0, 500));
        int[] many = new int[40];
        for (int i = 0; i < 40; i++) {
            many[i] = i % 2;
        }
        Bench.tellWord(down, many);
        Due.is("19: kept in lowest terms all the way", 1, down.shape());
        Due.row("19: nothing at last", down, 1, 0, 1);
        tooLargeOnTheWay();
    }

    private static void tooLargeOnTheWay() {
        StepBench x = Bench.withRule(Bench.share(1000, 0, 1), Bench.share(0, 0, 1));
        Bench.tellWord(x, 0, 0, 0, 0, 0, 0, 1);
        Due.is("19: too large on the way, though 0 at last", -2, x.shape());
        Bench.tellWord(x, 1, 0, 0, 0, 0, 0, 0, 0);
        Due.is("19: 0 all the way", 1, x.shape());
        Due.row("19: 0 all the way", x, 0, 0, 1);
        StepBench b = Bench.withRule(Bench.share(0, 1000, 1), Bench.share(1000, 0, 1));
        Bench.tellWord(b, 0, 1, 1, 1, 1);
        Due.is("19: B up to 10^15", 1, b.shape());
        Due.row("19: B just 10^15", b, 0, MOST, 1);
        b.rest(1);
        Due.is("19: B too large", -2, b.shape());
        long[][] halves = new long[64][];
        for (int r = 0; r < 64; r++) {
            halves[r] = Bench.share(1, r == 0 ? 0 : 64 - r, 64);
        }
        StepBench d = Bench.withRule(halves);
        Bench.tellWord(d, 0, 0, 0, 0, 0, 0, 0, 0);
        Due.is("19: D up to 2^48", 1, d.shape());
        Due.row("19: D 2^48", d, 1, 0, 1L << 48);
        d.rest(0);
        Due.is("19: D too large", -2, d.shape());
        Due.is("19: its ring too", -2, d.ring());
        Bench.tellWord(x, 0, 0, 0, 0, 0, 1, 2);
        Due.is("19: asked first, rests that are not below m", -1, x.shape());
    }

    private static void ring() {
        StepBench none = new StepBench();
        none.rest(0);
        Due.is("20: no rule", -1, none.ring());
        StepBench x = Bench.threeHalves();
        Due.is("20: an empty word", -1, x.ring());
        Bench.tellWord(x, 0, 2);
        Due.is("20: a rest that is not below m", -1, x.ring());
        int[][] words = {{0}, {1}, {1, 0}, {0, 1}, {1, 1, 0}, {1, 0, 1, 0}};
        long[] numbers = {0, -1, 1, 2, -5, 1};
        for (int i = 0; i < words.length; i++) {
            Bench.tellWord(x, words[i]);
            Due.is("20: a ring", 1, x.ring());
            Due.row("20: its number", x, numbers[i]);
        }
        Bench.tellWord(x, 0, 0, 1);
        Due.is("20: 2 / 5 is not whole", 0, x.ring());
        Due.row("20: the row before stays", x, 1);
        StepBench all = Bench.withRule(Bench.share(1, 1, 1), Bench.share(1, -1, 1));
        Bench.tellWord(all, 0, 1);
        Due.is("20: all that take it", 2, all.ring());
        Bench.tellWord(all, 0);
        Due.is("20: none, though A is D", 0, all.ring());
        Bench.tellWord(all, 0, 1, 1);
        Due.is("20: none", 0, all.ring());
        numbersThatDoNotTakeIt();
    }

    private static void numbersThatDoNotTakeIt() {
        StepBench x = Bench.withRule(Bench.share(3, 2, 1), Bench.share(5, 0, 1));
        Bench.tellWord(x, 0);
        Due.is("20: -1 is itself behind 3 x + 2, but is odd", 0, x.ring());
        Bench.tellWord(x, 1);
        Due.is("20: 0 is itself behind 5 x, but is even", 0, x.ring());
        StepBench y = Bench.withRule(Bench.share(-1, 4, 1), Bench.share(3, 1, 1));
        Bench.tellWord(y, 0);
        Due.is("20: 2 is itself behind 4 - x", 1, y.ring());
        Due.row("20: 2", y, 2);
        Bench.tellWord(y, 0, 0, 0);
        Due.is("20: and so three times", 1, y.ring());
        Bench.tellWord(y, 0, 0);
        Due.is("20: and all twice", 2, y.ring());
        StepBench z = Bench.withRule(Bench.share(3, 2, 1), Bench.share(5, 18, 1));
        Bench.tellWord(z, 0, 1);
        Due.is("20: -2 is itself behind both, but comes to -4, that is even", 0, z.ring());
    }

    /** Eight shares whose product is one 2^48th less than 1, so that the one ring has large numbers. */
    private static StepBench wide(int moreB) {
        long[] as = {241, 13, 257, 35, 97, 17, 9, 673};
        long[] bs = {15 + moreB, -26, 61, -12, 27, -38, 1, -8};
        long[][] shares = new long[64][];
        for (int r = 0; r < 64; r++) {
            shares[r] = r >= 1 && r <= 8 ? Bench.share(as[r - 1], bs[r - 1], 64) : Bench.share(1, 0, 1);
        }
        StepBench x = Bench.withRule(shares);
        Bench.tellWord(x, 1, 2, 3, 4, 5, 6, 7, 8);
        return x;
    }

    private static void ringBeyond() {
        StepBench x = wide(0);
        Due.is("20: large numbers", 1, x.ring());
        long number = -265484433365119L;
        Due.row("20: large numbers", x, number);
        Due.is("20: nearly as large as can be", -999714819390526L, x.step(number));
        Due.is("20: it comes back", number, x.run(number, 8));
        StepBench y = wide(-64);
        Due.is("20: its shape is not too large", 1, y.shape());
        Due.row("20: one more than a", y, (1L << 48) - 1, -340232974898239L, 1L << 48);
        Due.throwsA("20: it steps beyond", "ArithmeticException", () -> y.step(-340232974898239L));
        Due.is("20: a ring of which a number is beyond", 0, y.ring());
    }

    private static void rings() {
        StepBench none = new StepBench();
        Due.is("21: no rule", -1, none.rings(1));
        Due.is("21: a list", -1, Bench.withList(3, 2).rings(1));
        StepBench x = Bench.threeHalves();
        for (int k : new int[] {0, -1, 13, Integer.MAX_VALUE}) {
            Due.is("21: rings(" + k + ")", -1, x.rings(k));
        }
        long[][] due = {{-1, 0}, {1}, {-10}, {}, {}, {}, {}, {}, {}, {}, {-136}, {}};
        for (int k = 1; k <= 12; k++) {
            Due.is("21: rings(" + k + ")", due[k - 1].length, x.rings(k));
            Due.row("21: rings(" + k + ")", x, due[k - 1]);
        }
        StepBench q = Bench.threeQuarters();
        long[][] dueBack = {{-1, 0, 1}, {-3, 2}, {}, {}, {-9, 4}};
        for (int k = 1; k <= 5; k++) {
            Due.is("21: rings(" + k + ") of another", dueBack[k - 1].length, q.rings(k));
            Due.row("21: rings(" + k + ") of another", q, dueBack[k - 1]);
        }
        StepBench all = Bench.withRule(Bench.share(1, 1, 1), Bench.share(1, -1, 1));
        Due.is("21: words that all take are none", 0, all.rings(2));
        Due.row("21: none", all);
        StepBench zero = Bench.withRule(Bench.share(0, 5, 1), Bench.share(0, 8, 1), Bench.share(0, 1, 1));
        Due.is("21: none by itself", 0, zero.rings(1));
        Due.is("21: 1 to 8, 8 to 1", 1, zero.rings(2));
        Due.row("21: 1 to 8, 8 to 1", zero, 1);
    }

    private static void ringsSpent() {
        StepBench x = Bench.threeHalves();
        x.fixed();
        StepBench many = Bench.alike(28, 2, 0, 1);
        many.fixed();
        Due.is("21: 28 to the 3 is above 20000", -2, many.rings(3));
        Due.row("21: the row before stays", many, 0);
        Due.is("21: 28 to the 2 is not", 0, many.rings(2));
        Due.is("21: 64 to the 12", -2, Bench.alike(64, 1, 1, 1).rings(12));
        StepBench just = Bench.alike(27, 2, 0, 1);
        Due.is("21: 27 to the 3 is not", 0, just.rings(3));
        StepBench large = Bench.withRule(Bench.share(1000, 0, 1), Bench.share(1, 0, 1));
        large.fixed();
        Due.is("21: 1000 to the 5", 0, large.rings(5));
        large.fixed();
        Due.is("21: a word too large", -2, large.rings(6));
        Due.row("21: the row before stays", large, 0);
        StepBench last = Bench.withRule(Bench.share(1, 0, 1), Bench.share(999, 1, 1));
        Due.is("21: only the last word too large", -2, last.rings(6));
        StepBench unmet = Bench.withRule(Bench.share(1000, 1, 1), Bench.share(1, 0, 1));
        Due.is("21: words that no number takes count", -2, unmet.rings(6));
    }

    private static void falls() {
        Due.is("22: no rule", -1, new StepBench().falls(1));
        Due.is("22: a list", -1, Bench.withList(1, 2).falls(1));
        StepBench x = Bench.threeHalves();
        for (int k : new int[] {0, -1, 13, Integer.MIN_VALUE}) {
            Due.is("22: falls(" + k + ")", -1, x.falls(k));
        }
        // Those words of k rests fall that have i odd ones with 3 to the i below 2 to the k.
        long[] due = {1, 3, 4, 11, 26, 42, 99, 219, 382, 848, 1486, 3302};
        for (int k = 1; k <= 12; k++) {
            Due.is("22: falls(" + k + ")", due[k - 1], x.falls(k));
        }
        StepBench q = Bench.threeQuarters();
        Due.is("22: 3 / 2 and 3 / 4", 2, q.falls(1));
        Due.is("22: 9 / 8 does not fall, 9 / 16 does", 4, q.falls(2));
        Due.is("22: like is not below", 0, Bench.alike(3, 1, -5, 1).falls(2));
        Due.is("22: an a that is 0", 9, Bench.alike(3, 0, 5, 1).falls(2));
        Due.is("22: an a below 0", 3, Bench.alike(3, -2, 5, 1).falls(1));
        Due.is("22: its square is above", 0, Bench.alike(3, -2, 5, 1).falls(2));
        Due.is("22: 64 to the 2", 4096, Bench.alike(64, 0, 0, 7).falls(2));
    }

    private static void fallsAreRefused() {
        Due.is("22: 64 to the 3", -2, Bench.alike(64, 0, 0, 1).falls(3));
        Due.is("22: 28 to the 3", -2, Bench.alike(28, 0, 0, 1).falls(3));
        Due.is("22: 27 to the 3", 19683, Bench.alike(27, 0, 0, 1).falls(3));
        StepBench a = Bench.withRule(Bench.share(1, 0, 1), Bench.share(1000, 1, 1));
        Due.is("22: 1000 to the 4 by 2 to the 4", 0, a.falls(4));
        Due.is("22: the stride is above 10^15 behind five", -4, a.falls(5));
        StepBench s = Bench.alike(2, 1000, 0, 1);
        Due.is("22: all large", -4, s.falls(5));
        Due.is("22: distance just 10^15", 0, Bench.alike(2, 500, 0, 1).falls(5));
        Due.is("22: only the distance above", -4, Bench.alike(2, 501, 0, 1).falls(5));
        Due.is("22: only the distance below", -4, Bench.alike(2, -501, 0, 1).falls(5));
        Due.is("22: a number within", 0, Bench.alike(2, 500, 100, 1).falls(5));
        Due.is("22: only a number above", -4, Bench.alike(2, 500, 1000, 1).falls(5));
        Due.is("22: a shape within", 79,
            Bench.withRule(Bench.share(1, 0, 2), Bench.share(17, 1, 2)).falls(12));
        Due.is("22: only a shape's B above", -4,
            Bench.withRule(Bench.share(1, 0, 2), Bench.share(17, 999, 2)).falls(12));
        StepBench b = Bench.withRule(Bench.share(1, 0, 1), Bench.share(0, 1, 1));
        Due.is("22: 0 and 1", 2048, b.falls(12));
        StepBench low = Bench.withRule(Bench.share(-1000, 0, 1), Bench.share(0, 0, 1));
        Due.is("22: falls one and falls the other", 2, low.falls(1));
        Due.is("22: below 0", -4, low.falls(6));
    }

    private static void least() {
        Due.is("23: no rule", -1, new StepBench().least(1, 0));
        StepBench x = Bench.threeHalves();
        int[][] none = {{0, 5}, {-1, 5}, {20001, 5}, {5, -1}, {5, 2001}, {Integer.MIN_VALUE, 0}};
        for (int[] one : none) {
            Due.is("23: least(" + one[0] + ", " + one[1] + ")", -1, x.least(one[0], one[1]));
        }
        Due.is("23: 1 does", 0, x.least(1, 0));
        Due.is("23: 2 does not at once", 2, x.least(2, 0));
        Due.is("23: odd ones need two", 3, x.least(20000, 1));
        Due.is("23: 3 needs four", 3, x.least(3, 3));
        Due.is("23: 3 needs four", 0, x.least(3, 4));
        Due.is("23: 27 needs 59", 27, x.least(20000, 58));
        Due.is("23: 27 is not asked", 0, x.least(26, 58));
        Due.is("23: 703 needs 81", 703, x.least(20000, 80));
        Due.is("23: 10087 needs 105", 10087, x.least(20000, 104));
        Due.is("23: all do", 0, x.least(20000, 2000));
        Due.is("23: one that grows", 2, Bench.alike(2, 1, 1, 1).least(9, 2000));
        Due.is("23: beyond ahead", 3,
            Bench.withRule(Bench.share(1, 0, 2), Bench.share(1000, 0, 1)).least(9, 2000));
        Due.is("23: a list that ends ahead", 3, Bench.withList(1, 2).least(20000, 5));
        Due.is("23: of an empty list 1 does", 0, Bench.withList().least(1, 5));
        Due.is("23: and 2 does not", 2, Bench.withList().least(2, 5));
        Due.is("23: a list that falls", 0, Bench.withList(1, 2, 1, 3, 1, 5, 1, 7).least(10, 1));
        Due.is("23: up to 11", 11, Bench.withList(1, 2, 1, 3, 1, 5, 1, 7).least(20, 1));
    }
}
