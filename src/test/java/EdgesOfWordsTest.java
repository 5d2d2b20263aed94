import java.util.Arrays;
import java.util.TreeSet;

/** Promises 17 to 23, sentence by sentence, where they name an edge. */
public final class EdgesOfWordsTest {
    private static final long MOST = 1000000000000000L;
    private static final int[] AS = {9, 13, 17, 35, 97, 241, 257, 673};

    public static void main(String[] args) {
        restsOfAWord();
        fortyRests();
        clearTellsHowMany();
        shapeNone();
        shapeOfFactors();
        shapeOfAddends();
        shapeOfDivisors();
        shapeTooLargeOnTheWay();
        shapeInLowestTerms();
        ringNone();
        ringAtMostOne();
        ringAllOrNone();
        ringOfNumbers();
        ringsOfOneToTwelve();
        ringsOfFewerNumbers();
        ringsUpTo20000();
        ringsTooLarge();
        ringsOfTwelve();
        moreThan1000Rings();
        fallsOfOneToTwelve();
        fallsUpTo20000();
        fallsBelowD();
        fallsNumberTooLarge();
        fallsDistanceTooLarge();
        fallsShapeTooLarge();
        fallsFirstOne();
        leastAsTold();
        leastWithinK();
        leastUpTo20000();
        leastEndsOrIsBeyond();
        Due.close("EdgesOfWordsTest");
    }

    // ---- 17: rest, 18: clear

    /** "NONE: not 0 .. 63." */
    private static void restsOfAWord() {
        StepBench x = new StepBench();
        for (int r : new int[] {-1, 64, 65, -64, 256, 65536, Integer.MIN_VALUE, Integer.MAX_VALUE}) {
            Due.is("17: rest(" + r + ")", -1, x.rest(r));
            Due.is("17: it did not come", 0, x.count(4));
        }
        for (int r = 0; r < 64; r++) {
            StepBench y = new StepBench();
            Due.is("17: rest(" + r + ")", 1, y.rest(r));
        }
    }

    /** "A REST comes behind THE WORD: how many it has .. NONE: .. or it has 40." */
    private static void fortyRests() {
        StepBench x = Bench.withRule(Bench.share(2, 0, 1), Bench.share(2, 1, 1));
        for (int i = 1; i <= 40; i++) {
            Due.is("17: rest " + i, i, x.rest(i % 2));
        }
        for (int i = 0; i < 3; i++) {
            Due.is("17: the 41st", -1, x.rest(0));
            Due.is("17: it did not come", 40, x.count(4));
        }
        Due.is("17: nor did it push one out", 1, x.shape());
        Due.row("17: (10)^20", x, 1L << 40, ((1L << 40) - 1) / 3 * 2, 1);
        Due.is("18: how many it had", 40, x.clear());
        Due.is("17: then one comes", 1, x.rest(1));
        Due.is("17: and is the first", 1, x.shape());
        Due.row("17: 2 x + 1", x, 2, 1, 1);
    }

    /** "THE WORD is empty: how many it had." */
    private static void clearTellsHowMany() {
        StepBench x = Bench.threeHalves();
        Due.is("18: of none", 0, x.clear());
        for (int n : new int[] {1, 2, 39, 40}) {
            for (int i = 0; i < n; i++) {
                x.rest(i % 2);
            }
            Due.is("18: of " + n, n, x.clear());
            Due.is("18: it is empty", 0, x.count(4));
            Due.is("18: none again", 0, x.clear());
            Due.is("19: no shape of it", -1, x.shape());
            Due.is("20: no ring of it", -1, x.ring());
        }
    }

    // ---- 19: shape

    /** "NONE: THE RULE is no RULE, THE WORD is empty, or has a REST not below m." */
    private static void shapeNone() {
        StepBench x = new StepBench();
        x.rest(0);
        Due.is("19: no rule", -1, x.shape());
        x.draft(2);
        Due.is("19: a draft", -1, x.shape());
        x.list();
        Due.is("19: a list", -1, x.shape());
        Due.is("20: a list", -1, x.ring());
        x.seal();
        Due.is("19: sealed", 1, x.shape());
        for (int m : new int[] {2, 3, 63}) {
            StepBench y = Bench.alike(m, 1, 0, 1);
            Due.is("19: an empty word", -1, y.shape());
            Due.is("20: an empty word", -1, y.ring());
            for (int at = 0; at < 40; at += 13) {
                y.clear();
                for (int i = 0; i < 40; i++) {
                    y.rest(i == at ? m : m - 1);
                }
                Due.is("19: rest " + m + " at " + at, -1, y.shape());
                Due.is("20: rest " + m + " at " + at, -1, y.ring());
            }
            StepBench z = Bench.alike(m, 1, 0, 1);
            for (int r = 0; r < 64; r++) {
                Bench.tellWord(z, 0, r);
                Due.is("19: rest " + r + " by " + m, r < m ? 1 : -1, z.shape());
            }
        }
        StepBench all = Bench.alike(64, 1, 0, 1);
        Bench.tellWord(all, 63);
        Due.is("19: rest 63 of 64", 1, all.shape());
    }

    /** Tells the word and asks for its shape: SPENT and the row before stays, or the shape. */
    private static void shape(String call, StepBench x, int[] word, long... due) {
        Bench.tellWord(x, word);
        x.word(0, 1);
        Due.is("19: " + call, due.length == 0 ? -2 : 1, x.shape());
        if (due.length == 0) {
            Due.row("19: " + call + ", as before", x, 0);
            Due.is("20: " + call, -2, x.ring());
        } else {
            Due.row("19: " + call, x, due);
        }
    }

    /** "A, B or D is above 10^15 in size": A. */
    private static void shapeOfFactors() {
        long[] as = {1000, 641, 317, 779, 361, 875, 20, -1, 2};
        long[][] shares = new long[64][];
        for (int r = 0; r < 64; r++) {
            shares[r] = Bench.share(r < as.length ? as[r] : 1, 0, 1);
        }
        StepBench x = Bench.withRule(shares);
        shape("A is 10^15", x, new int[] {0, 0, 0, 0, 0}, MOST, 0, 1);
        shape("A is -10^15", x, new int[] {0, 0, 0, 0, 0, 7}, -MOST, 0, 1);
        shape("A is 10^15 + 2500", x, new int[] {1, 2, 3, 4, 5, 6});
        shape("A is -10^15 - 2500", x, new int[] {7, 1, 2, 3, 4, 5, 6});
        shape("A is 5 * 10^13 + 125", x, new int[] {1, 2, 3, 4, 5}, MOST / 20 + 125, 0, 1);
        shape("A is 2 * 10^15", x, new int[] {0, 0, 0, 0, 0, 8});
        shape("A is 10^18", x, new int[] {0, 0, 0, 0, 0, 0});
        int[] many = new int[40];
        shape("A is 10^120", x, many);
    }

    /** B. */
    private static void shapeOfAddends() {
        StepBench x = Bench.withRule(Bench.share(0, 1000, 1), Bench.share(1000, 0, 1), Bench.share(1, 1, 1),
            Bench.share(1, -1, 1), Bench.share(-1, 0, 1));
        shape("B is 10^15", x, new int[] {0, 1, 1, 1, 1}, 0, MOST, 1);
        shape("B is 10^15 + 1", x, new int[] {0, 1, 1, 1, 1, 2});
        shape("B is 10^15 - 1", x, new int[] {0, 1, 1, 1, 1, 3}, 0, MOST - 1, 1);
        shape("B is -10^15", x, new int[] {0, 1, 1, 1, 1, 4}, 0, -MOST, 1);
        shape("B is -10^15 - 1", x, new int[] {0, 1, 1, 1, 1, 4, 3});
        shape("B is 1 - 10^15", x, new int[] {0, 1, 1, 1, 1, 4, 2}, 0, 1 - MOST, 1);
        shape("B alone, A is 1", x, new int[] {2, 2, 2}, 1, 3, 1);
        shape("B is 10^15 + 1 on the way", x, new int[] {0, 1, 1, 1, 1, 2, 3});
        StepBench y = Bench.withRule(Bench.share(1, 999, 1), Bench.share(1000, 0, 1), Bench.share(1, 1, 1));
        shape("A is 10^12, B 999 * 10^12", y, new int[] {0, 1, 1, 1, 1}, MOST / 1000, MOST / 1000 * 999, 1);
        shape("A is 10^15 and B 0", y, new int[] {1, 1, 1, 1, 1}, MOST, 0, 1);
        shape("A is 10^15 and B 1", y, new int[] {1, 1, 1, 1, 1, 2}, MOST, 1, 1);
    }

    /** D. */
    private static void shapeOfDivisors() {
        long[][] tens = new long[10][];
        for (int r = 0; r < 10; r++) {
            tens[r] = Bench.share(r == 1 ? 10 : 1, 0, r == 0 ? 10 : 1);
        }
        StepBench x = Bench.withRule(tens);
        shape("D is 10^15", x, new int[15], 1, 0, MOST);
        shape("D is 10^16", x, new int[16]);
        int[] back = new int[20];
        Arrays.fill(back, 15, 20, 1);
        shape("D is 10^15, and 10^10 at last", x, back, 1, 0, MOST / 100000);
        long[][] sixty = new long[60][];
        for (int r = 0; r < 60; r++) {
            sixty[r] = Bench.share(1, 0, r == 0 ? 15 : r == 5 ? 5 : 1);
        }
        StepBench y = Bench.withRule(sixty);
        shape("D is 3^8 5^15", y, new int[] {0, 0, 0, 0, 0, 0, 0, 0, 5, 5, 5, 5, 5, 5, 5}, 1, 0, 200225830078125L);
        shape("D is 3^8 5^16, one part in 900 above", y, new int[] {0, 0, 0, 0, 0, 0, 0, 0, 5, 5, 5, 5, 5, 5, 5, 5});
    }

    /** "Of the SHAPE behind some of its steps." */
    private static void shapeTooLargeOnTheWay() {
        StepBench x = Bench.withRule(Bench.share(0, 7, 1), Bench.share(1000, 0, 1), Bench.share(2, 0, 1));
        shape("all is 7 at last", x, new int[] {1, 1, 1, 1, 1, 0}, 0, 7, 1);
        shape("all is 7 at last, but 2 * 10^15 before", x, new int[] {1, 1, 1, 1, 1, 2, 0});
        shape("all is 7 at last, but 10^18 before", x, new int[] {1, 1, 1, 1, 1, 1, 0});
        shape("7 first, so that A never grows", x, new int[] {0, 1, 1, 1, 1}, 0, MOST / 1000 * 7, 1);
        shape("7 first, but B grows", x, new int[] {0, 1, 1, 1, 1, 1});
    }

    /** "The three without a common divisor, D above 0": so what is taken away does not count as large. */
    private static void shapeInLowestTerms() {
        StepBench x = Bench.withRule(Bench.share(1000, 0, 1000), Bench.share(999, 999, 999));
        int[] word = new int[40];
        shape("forty times nothing", x, word, 1, 0, 1);
        for (int i = 0; i < 40; i++) {
            word[i] = 1;
        }
        shape("forty times one more", x, word, 1, 40, 1);
        StepBench y = Bench.withRule(
            Bench.share(6, 4, 2), Bench.share(-4, 4, 8), Bench.share(1, 0, 1), Bench.share(0, -8, 4));
        shape("(6 x + 4) / 2", y, new int[] {0}, 3, 2, 1);
        shape("(-4 x + 4) / 8", y, new int[] {1}, -1, 1, 2);
        shape("-8 / 4", y, new int[] {3}, 0, -2, 1);
        shape("-8 / 4 by 2", y, new int[] {3, 1}, 0, 3, 2);
        shape("nothing at all", y, new int[] {2}, 1, 0, 1);
        StepBench b = Bench.withRule(Bench.share(4, 0, 4), Bench.share(4, 4, 8));
        shape("A and D have 4 in common, B too", b, new int[] {1}, 1, 1, 2);
        shape("B has not", b, new int[] {1, 1}, 1, 3, 4);
    }

    // ---- 20: ring

    private static void ring(String call, StepBench x, int[] word, long... due) {
        Bench.tellWord(x, word);
        x.word(0, 2);
        String before = Due.rowOf(x);
        Due.is("20: " + call, due.length, x.ring());
        if (due.length == 1) {
            Due.row("20: " + call, x, due);
        } else {
            Due.text("20: " + call + ", the row as before", before, Due.rowOf(x));
        }
    }

    private static void ringNone() {
        StepBench x = new StepBench();
        x.rest(0);
        Due.is("20: no rule", -1, x.ring());
        StepBench y = Bench.alike(2, 1000, 0, 1);
        ring("A is 10^15", y, new int[] {0, 0, 0, 0, 0}, 0);
        Bench.tellWord(y, 0, 0, 0, 0, 0, 0);
        y.word(1, 1);
        Due.is("20: too large", -2, y.ring());
        Due.row("20: the row stays", y, 1);
    }

    /** "If A is not D: at most one." */
    private static void ringAtMostOne() {
        StepBench x = Bench.withRule(
            Bench.share(3, 2, 1), Bench.share(-1, 2, 1), Bench.share(0, 2, 1), Bench.share(4, -9, 1));
        ring("-1 by 3 x + 2, but its rest is 3", x, new int[] {0});
        ring("1 by 2 - x", x, new int[] {1}, 1);
        ring("2 by 2", x, new int[] {2}, 2);
        ring("3 by 4 x - 9", x, new int[] {3}, 3);
        ring("2 by 2 twice", x, new int[] {2, 2}, 2);
        StepBench y = Bench.withRule(Bench.share(3, 1, 1), Bench.share(-2, 1, 1), Bench.share(5, 5, 1));
        ring("-1 / 2 is not whole", y, new int[] {0});
        ring("1 / 3 is not whole", y, new int[] {1});
        ring("-5 / 4 is not whole", y, new int[] {2});
        StepBench z = Bench.withRule(Bench.share(1, 1, 1), Bench.share(3, -7, 1));
        ring("2 to 3 to 2", z, new int[] {0, 1}, 2);
        ring("3 to 2 to 3", z, new int[] {1, 0}, 3);
        ring("2 to 3 to 2 to 3 to 2", z, new int[] {0, 1, 0, 1}, 2);
        ring("x + 2 and 3 x - 7, but -1 / 2 is not whole", z, new int[] {0, 0, 1});
        StepBench w = Bench.withRule(Bench.share(1, 1, 1), Bench.share(3, -5, 1));
        ring("2 by 3 x - 4, but 2 is even", w, new int[] {1, 0});
        ring("1 by 3 x - 2, but 1 is odd", w, new int[] {0, 1});
    }

    /** "Else, if B is 0, all that take it, else none." */
    private static void ringAllOrNone() {
        StepBench two = Bench.withRule(
            Bench.share(1, 0, 1), Bench.share(1, 2, 1), Bench.share(1, -1, 1), Bench.share(-1, 0, 1));
        Bench.tellWord(two, 0);
        Due.is("20: A is D, B is 0", 2, two.ring());
        ring("A is D, B is 2", two, new int[] {1});
        ring("A is D, B is -1", two, new int[] {2});
        Bench.tellWord(two, 1, 2, 2);
        Due.is("20: A is D, B is 0 behind three", 2, two.ring());
        ring("A is -D, B is 0", two, new int[] {3});
        Bench.tellWord(two, 3, 3);
        Due.is("20: -x twice is all", 2, two.ring());
        StepBench third = Bench.withRule(Bench.share(2, 0, 3), Bench.share(3, 3, 2), Bench.share(3, 0, 2),
            Bench.share(2, 0, 3), Bench.share(3, 0, 2), Bench.share(1, 0, 1));
        ring("2 / 3 and 3 / 2, A is D, B is 3", third, new int[] {0, 1});
        Bench.tellWord(third, 0, 2);
        Due.is("20: 2 / 3 and 3 / 2, A is D, B is 0", 2, third.ring());
        StepBench none = Bench.withRule(Bench.share(1, 1, 1), Bench.share(1, -1, 1));
        Bench.tellWord(none, 0, 0, 1, 1);
        Due.is("20: all that take it, though that is none", 2, none.ring());
    }

    private static StepBench eight(int[] rests, int[] bs) {
        long[][] shares = new long[64][];
        for (int r = 0; r < 64; r++) {
            shares[r] = Bench.share(1, 0, 1);
        }
        for (int i = 0; i < 8; i++) {
            shares[rests[i]] = Bench.share(AS[i], bs[i], 64);
        }
        return Bench.withRule(shares);
    }

    private static int[] turned(int[] word, int by) {
        int[] turned = new int[word.length];
        for (int i = 0; i < word.length; i++) {
            turned[i] = word[(i + by) % word.length];
        }
        return turned;
    }

    /** "(One of which some number is no NUMBER is none.)" */
    private static void ringOfNumbers() {
        int[][] rests = {
            {0, 53, 56, 22, 54, 28, 25, 8}, {0, 60, 6, 42, 14, 35, 37, 57},
            {1, 53, 56, 22, 54, 28, 25, 8}, {63, 60, 6, 42, 14, 35, 37, 57}
        };
        int[][] bs = {
            {-704, -881, 648, -258, 202, -412, -153, -264}, {-256, 948, -614, 514, -654, 525, 731, -409},
            {-713, -881, 648, -258, 202, -412, -153, -200}, {-247, 948, -614, 514, -654, 525, 731, -473}
        };
        for (int sign = 0; sign < 2; sign++) {
            StepBench x = eight(rests[sign], bs[sign]);
            long from = sign == 0 ? MOST : -MOST;
            Due.is("20: back to " + from, from, x.run(from, 8));
            for (int by = 0; by < 8; by++) {
                ring("through " + from + ", begun at " + by, x, turned(rests[sign], by), x.run(from, by));
            }
        }
        for (int sign = 2; sign < 4; sign++) {
            StepBench x = eight(rests[sign], bs[sign]);
            long from = sign == 2 ? MOST + 1 : -MOST - 1;
            for (int by = 1; by < 8; by++) {
                ring("through " + from + ", begun at " + by, x, turned(rests[sign], by));
                Due.is("20: its shape is not too large", 1, x.shape());
            }
            Bench.tellWord(x, rests[sign]);
            Due.is("20: B is " + from, -2, x.ring());
        }
    }

    // ---- 21: rings

    /** "Of k numbers (1 .. 12) .. NONE: THE RULE is no RULE, another k." */
    private static void ringsOfOneToTwelve() {
        for (int k : new int[] {0, -1, 13, 14, Integer.MIN_VALUE, Integer.MAX_VALUE}) {
            Due.is("21: rings(" + k + ")", -1, Bench.threeHalves().rings(k));
            Due.is("21: of 64 rests, rings(" + k + ")", -1, Bench.alike(64, 1, 0, 1).rings(k));
        }
        for (int k : new int[] {1, 6, 12}) {
            Due.is("21: no rule", -1, new StepBench().rings(k));
            Due.is("21: a list", -1, Bench.withList(1, 2).rings(k));
        }
        StepBench x = Bench.threeHalves();
        Due.is("21: rings(1)", 2, x.rings(1));
        Due.row("21: rings(1)", x, -1, 0);
        Due.is("21: rings(12)", 0, x.rings(12));
        Due.row("21: rings(12)", x);
    }

    /** "(A RING of fewer numbers gone round is none of these.)" */
    private static void ringsOfFewerNumbers() {
        StepBench x = Bench.withRule(
            Bench.share(0, 1, 1), Bench.share(0, 2, 1), Bench.share(0, 0, 1), Bench.share(0, 3, 1));
        int[] due = {1, 0, 1, 0, 0, 0, 0};
        long[][] rows = {{3}, {}, {0}, {}, {}, {}, {}};
        for (int k = 1; k <= 7; k++) {
            Due.is("21: 3, and 0 to 1 to 2, rings(" + k + ")", due[k - 1], x.rings(k));
            Due.row("21: rings(" + k + ")", x, rows[k - 1]);
        }
        StepBench y = Bench.withRule(Bench.share(0, 1, 1), Bench.share(0, 0, 1));
        for (int k = 1; k <= 12; k++) {
            Due.is("21: 0 to 1, rings(" + k + ")", k == 2 ? 1 : 0, y.rings(k));
        }
        StepBench z = Bench.withRule(Bench.share(-2, 3, 1), Bench.share(-2, 3, 1));
        Due.is("21: 1 by 3 - 2 x", 1, z.rings(1));
        for (int k = 2; k <= 12; k++) {
            Due.is("21: 1 gone round " + k + " times", 0, z.rings(k));
        }
        StepBench all = Bench.withRule(Bench.share(1, 1, 1), Bench.share(1, -1, 1));
        for (int k = 1; k <= 12; k++) {
            Due.is("21: (not all), rings(" + k + ")", 0, all.rings(k));
        }
    }

    private static boolean isAtMost20000(int m, int k) {
        long all = 1;
        for (int i = 0; i < k; i++) {
            all = Math.min(all * m, 1L << 40);
        }
        return all <= 20000;
    }

    /** "SPENT: m to the k is above 20000": 19683 is not, 20736 is. */
    private static void ringsUpTo20000() {
        for (int m = 2; m <= 64; m++) {
            StepBench x = Bench.alike(m, 0, 0, 1);
            for (int k = 1; k <= 12; k++) {
                boolean isFew = isAtMost20000(m, k);
                if (isAtMost20000(m, k - 1)) {
                    x.word(0, 2);
                    Due.is("21: " + m + " to the " + k, isFew ? k == 1 ? 1 : 0 : -2, x.rings(k));
                    Due.is("21: the row is told or stays", isFew ? k == 1 ? 1 : 0 : 2, x.count(3));
                }
            }
            Due.is("21: " + m + " to the 12", m == 2 ? 0 : -2, x.rings(12));
        }
    }

    /** "Or a WORD of these is TOO LARGE." */
    private static void ringsTooLarge() {
        for (int at = 0; at < 3; at++) {
            long[][] shares = {Bench.share(1, 0, 1), Bench.share(1, 0, 1), Bench.share(1, 0, 1)};
            shares[at] = Bench.share(1000, 0, 1);
            StepBench x = Bench.withRule(shares);
            x.word(at, 1);
            Due.is("21: 10^18 by rest " + at, -2, x.rings(6));
            Due.row("21: the row stays", x, at);
            Due.is("21: 10^15 by rest " + at, 0, x.rings(5));
            Due.row("21: none in the row", x);
        }
        Due.is("21: B up to 10^15 - 1", 0, Bench.alike(2, 1000, 999, 1).rings(5));
        Due.is("21: B up to 10^15 and more", -2, Bench.alike(2, 1000, 1000, 1).rings(5));
        Due.is("21: words that no number takes count", -2, Bench.withRule(
            Bench.share(2, 1, 1), Bench.share(1000, 0, 1)).rings(6));
    }

    /** A ring of twelve numbers, the most that are asked for, and one of eleven beside another. */
    private static void ringsOfTwelve() {
        StepBench x = Bench.withRule(Bench.share(1, 4, 2), Bench.share(1, -9, 2));
        Due.is("21: round in just 12", 12, x.until(x.step(-8), -8, 100) + 1);
        Due.is("21: rings(12)", 1, x.rings(12));
        Due.row("21: rings(12)", x, -8);
        Due.is("21: rings(11)", 0, x.rings(11));
        Due.row("21: rings(11)", x);
        StepBench y = Bench.withRule(Bench.share(-3, 2, 2), Bench.share(-1, 7, 2));
        Due.is("21: one of 12", 1, y.rings(12));
        Due.row("21: one of 12", y, -32);
        Due.is("21: one of 11", 1, y.rings(11));
        Due.row("21: one of 11", y, -8);
    }

    /** "The ROW: of each its least number, each ring once, ascending (the first 1000): how many there are." */
    private static void moreThan1000Rings() {
        for (int form = 0; form < 4; form++) {
            for (int lower : new int[] {27, 28, 32}) {
                manyRings(manyShares(lower, form));
            }
        }
        long[][] falling = manyShares(32, 0);
        for (int r = 0; r < 64; r++) {
            // So falls what the later words begin with: the row has to let go of greater ones.
            long times = r < 32 ? (r * 7) % 29 - 14 : (63 - r) * 14 / 31;
            falling[r][1] = Math.floorMod(-falling[r][0] * r, 64L) + 64 * times;
        }
        manyRings(falling);
        Due.is("21: rings just below 1000", 999, manyRings(manyShares(27, 0)));
        long[][] thousand = manyShares(27, 0);
        thousand[0][1] = 2 * 64;
        Due.is("21: just 1000 rings", 1000, manyRings(thousand));
        long[][] more = manyShares(27, 0);
        more[0][1] = 4 * 64;
        more[1][1] = 1 + 4 * 64;
        Due.is("21: just 1001 rings", 1001, manyRings(more));
        long[][] others = manyShares(27, 2);
        others[0][1] = 6 * 64;
        others[1][1] = 1 - 5 * 64;
        Due.is("21: just 1001 other rings", 1001, manyRings(others));
    }

    /** 63 x / 64 by some rests, 65 x / 64 by the others: each pair of one and one is a ring, and few others. */
    private static long[][] manyShares(int lower, int form) {
        long[][] shares = new long[64][];
        for (int r = 0; r < 64; r++) {
            long a = r < lower ? 63 : 65;
            long[] times = {r / 5, 14 - r / 5, r * 37 % 29 - 14, (r * r + 5 * r) % 27 - 13};
            shares[r] = Bench.share(a, Math.floorMod(-a * r, 64L) + 64 * times[form], 64);
        }
        return shares;
    }

    private static TreeSet<Long> leastOfTwos(long[][] shares) {
        TreeSet<Long> least = new TreeSet<>();
        for (int r = 0; r < 64; r++) {
            for (int s = r + 1; s < 64; s++) {
                long gap = 4096 - shares[r][0] * shares[s][0];
                long b = shares[s][0] * shares[r][1] + 64 * shares[s][1];
                long x = b / gap;
                long y = (shares[r][0] * x + shares[r][1]) / 64;
                if (b % gap == 0 && Math.floorMod(x, 64L) == r && Math.floorMod(y, 64L) == s) {
                    least.add(Math.min(x, y));
                }
            }
        }
        return least;
    }

    private static int manyRings(long[][] shares) {
        TreeSet<Long> least = leastOfTwos(shares);
        int all = least.size();
        int at = 0;
        StepBench x = null;
        for (long due : least) {
            // A bench is used for at most 512 calls, and some 200 of them make the rule.
            if (at % 200 == 0) {
                StepBench told = Bench.withRule(shares);
                Due.is("21: rings(2)", all, told.rings(2));
                Due.is("21: rings(2), in the row", Math.min(1000, all), told.count(3));
                Due.throwsA("21: rings(2), behind the row", "NoSuchElementException",
                    () -> told.row(Math.min(1000, all)));
                x = told;
            }
            if (at < 1000) {
                Due.is("21: row(" + at + ") of " + all + " rings", due, x.row(at));
            }
            at++;
        }
        return all;
    }

    // ---- 22: falls

    /** "NONE: THE RULE is no RULE, k not 1 .. 12." */
    private static void fallsOfOneToTwelve() {
        for (int k : new int[] {0, -1, 13, 14, Integer.MIN_VALUE, Integer.MAX_VALUE}) {
            Due.is("22: falls(" + k + ")", -1, Bench.threeHalves().falls(k));
            Due.is("22: of 64 rests, falls(" + k + ")", -1, Bench.alike(64, 0, 0, 1).falls(k));
        }
        for (int k : new int[] {1, 12}) {
            Due.is("22: no rule", -1, new StepBench().falls(k));
            Due.is("22: a list", -1, Bench.withList(1, 2).falls(k));
        }
        Due.is("22: falls(1)", 1, Bench.threeHalves().falls(1));
        Due.is("22: falls(12)", 3302, Bench.threeHalves().falls(12));
    }

    /** "M = m to the k (at most 20000) .. SPENT: M is more." */
    private static void fallsUpTo20000() {
        for (int m = 2; m <= 64; m++) {
            StepBench x = Bench.alike(m, 0, 0, 1);
            int all = 1;
            for (int k = 1; k <= 12 && isAtMost20000(m, k - 1); k++) {
                boolean isFew = isAtMost20000(m, k);
                all *= m;
                Due.is("22: " + m + " to the " + k, isFew ? all : -2, x.falls(k));
            }
            Due.is("22: " + m + " to the 12", m == 2 ? 4096 : -2, x.falls(12));
        }
    }

    /** "Its A is below D." */
    private static void fallsBelowD() {
        Due.is("22: A like D", 0, Bench.alike(2, 1, -1, 1).falls(3));
        Due.is("22: A like D by 7", 0, Bench.alike(2, 7, -7, 7).falls(3));
        Due.is("22: A 0", 8, Bench.alike(2, 0, 1000, 1).falls(3));
        Due.is("22: A below 0", 8, Bench.alike(2, -1, 1000, 1).falls(3));
        Due.is("22: A above D", 0, Bench.alike(2, 2, -1000, 1).falls(3));
        Due.is("22: A 63 by 64", 1, Bench.withRule(near64(63)).falls(1));
        Due.is("22: A 65 by 64", 0, Bench.withRule(near64(65)).falls(1));
        Due.is("22: 3 / 4 and 5 / 4, that is 15 / 16", 1, Bench.withRule(
            Bench.share(3, 4, 4), Bench.share(5, 3, 4), Bench.share(1, 0, 1), Bench.share(1, 0, 1)).falls(1));
    }

    private static long[][] near64(long a) {
        long[][] shares = new long[64][];
        for (int r = 0; r < 64; r++) {
            shares[r] = r == 0 ? Bench.share(a, 0, 64) : Bench.share(1, 0, 1);
        }
        return shares;
    }

    /** "-4: .. what the number 0 .. M - 1 of this REST came to .. is above 10^15 in size": 3124 comes to just that. */
    private static void fallsNumberTooLarge() {
        Due.is("22: 3124 comes to 10^15", 0, fiveOf(200, 200, 1, -198, -397, -600).falls(5));
        Due.is("22: 3124 comes to 10^15 + 1", -4, fiveOf(200, 200, 1, -198, -397, -599).falls(5));
        Due.is("22: 3124 comes to 10^15 - 1", 0, fiveOf(200, 200, 1, -198, -397, -601).falls(5));
        Due.is("22: 3124 comes to -10^15", 3125, fiveOf(-200, -200, 1, 202, 403, 600).falls(5));
        Due.is("22: 3124 comes to -10^15 - 1", -4, fiveOf(-200, -200, 1, 202, 403, 599).falls(5));
        Due.is("22: 3124 comes to 1 - 10^15", 3125, fiveOf(-200, -200, 1, 202, 403, 601).falls(5));
        Due.is("12: it does", MOST, fiveOf(200, 200, 1, -198, -397, -600).run(3124, 5));
        Due.is("12: it does", -MOST, fiveOf(-200, -200, 1, 202, 403, 600).run(3124, 5));
        Due.throwsA("12: and it does not", "ArithmeticException",
            () -> fiveOf(200, 200, 1, -198, -397, -599).run(3124, 5));
    }

    /** Rest 4 goes on to rest 0, 1, 2 and 3, all by a. */
    private static StepBench fiveOf(long a, long b4, long b0, long b1, long b2, long b3) {
        return Bench.withRule(Bench.share(a, b0, 1), Bench.share(a, b1, 1), Bench.share(a, b2, 1),
            Bench.share(a, b3, 1), Bench.share(a, b4, 1));
    }

    /** "Or M A / D." */
    private static void fallsDistanceTooLarge() {
        Due.is("22: the distance is 10^15", 0, Bench.alike(5, 200, 0, 1).falls(5));
        Due.is("22: the distance is -10^15", 3125, Bench.alike(5, -200, 0, 1).falls(5));
        // 160 * 167 * 168 * 218 * 327 is 2560 above 200^5, and each rest goes on to the next one.
        long[] as = {160, 167, 168, 218, 327};
        for (int sign = 1; sign >= -1; sign -= 2) {
            long[][] shares = new long[5][];
            for (int r = 0; r < 5; r++) {
                long a = r == 0 ? sign * as[r] : as[r];
                shares[r] = Bench.share(a, Math.floorMod(r + 1 - a * r, 5L), 1);
            }
            StepBench x = Bench.withRule(shares);
            Due.is("22: behind four it is within", sign > 0 ? 0 : 500, x.falls(4));
            Due.is("22: the distance is 8000000 above", -4, x.falls(5));
            Due.is("12: though the number is within", true, Math.abs(x.run(3124, 5)) < MOST);
        }
        Due.is("22: all of one step", 0, Bench.alike(64, 1000, 0, 1).falls(2));
        Due.is("22: the distance is 1000^5 by 2^5 times 2^5", 0, Bench.alike(2, 1000, 0, 2).falls(5));
        Due.is("22: the distance is 17^12", 79, Bench.withRule(Bench.share(1, 0, 2), Bench.share(17, 1, 2)).falls(12));
        Due.is("22: the distance is 18^12", -4, Bench.withRule(Bench.share(1, 0, 2), Bench.share(18, 0, 2)).falls(12));
        Due.is("22: the distance is 9^12 2^6", 0, Bench.alike(2, 9, 0, 1).falls(6));
    }

    /** "-4: behind a STEP the SHAPE is TOO LARGE": B alone, what the numbers come to is half of that at most. */
    private static void fallsShapeTooLarge() {
        Due.is("22: B is 971037062042775", 79,
            Bench.withRule(Bench.share(1, 0, 2), Bench.share(17, 25, 2)).falls(12));
        Due.is("22: B is 1048720027006197", -4,
            Bench.withRule(Bench.share(1, 0, 2), Bench.share(17, 27, 2)).falls(12));
        Due.is("22: B is -1048720027006197", -4,
            Bench.withRule(Bench.share(1, 0, 2), Bench.share(17, -27, 2)).falls(12));
        Due.is("22: behind 11 it is not yet", 67,
            Bench.withRule(Bench.share(1, 0, 2), Bench.share(17, 27, 2)).falls(11));
    }

    /** "The RESTS by M are gone over from 0 on, each STEP by STEP; what comes up first is answered." */
    private static void fallsFirstOne() {
        for (int at = 0; at < 2; at++) {
            long[][] shares = {Bench.share(1, 0, 1), Bench.share(1, 0, 1)};
            shares[at] = Bench.share(1000, at, 1);
            Due.is("22: rest " + at + " too large in the end", -4, Bench.withRule(shares).falls(6));
            Due.is("22: rest " + at + " not too large", 0, Bench.withRule(shares).falls(4));
        }
        StepBench back = Bench.withRule(Bench.share(1000, 0, 1), Bench.share(0, 0, 1));
        Due.is("22: too large on the way, though only 0 falls", -4, back.falls(6));
        Due.is("22: 1000 and 0", 1, back.falls(1));
    }

    // ---- 23: least

    /** "NONE: there is no RULE, other n (0 too), k." */
    private static void leastAsTold() {
        StepBench x = Bench.threeHalves();
        for (int n : new int[] {0, -1, 20001, 20002, Integer.MIN_VALUE, Integer.MAX_VALUE}) {
            Due.is("23: n " + n, -1, x.least(n, 5));
        }
        for (int k : new int[] {-1, -2, 2001, 2002, Integer.MIN_VALUE, Integer.MAX_VALUE}) {
            Due.is("23: k " + k, -1, x.least(5, k));
            Due.is("23: k " + k + " of 1 alone", -1, x.least(1, k));
        }
        Due.is("23: no rule", -1, new StepBench().least(1, 0));
        Due.is("23: n 1, k 0", 0, x.least(1, 0));
        Due.is("23: n 1, k 2000", 0, x.least(1, 2000));
        Due.is("23: n 20000, k 2000", 0, x.least(20000, 2000));
        Due.is("23: n 20000, k 0", 2, x.least(20000, 0));
    }

    /** "Within k STEPS (0 .. 2000)"; "1 does". */
    private static void leastWithinK() {
        StepBench x = Bench.withRule(Bench.share(1, 0, 6), Bench.share(3, -9, 1), Bench.share(3, -1, 1),
            Bench.share(5, 2, 1), Bench.share(3, -3, 1), Bench.share(2, -9, 1));
        Due.is("14: 286 comes below itself in just 2000", 2000, x.height(286, 2000));
        Due.is("23: k 2000", 0, x.least(286, 2000));
        Due.is("23: k 1999", 286, x.least(286, 1999));
        Due.is("23: 286 is not asked", 0, x.least(285, 1999));
        StepBench y = Bench.withRule(
            Bench.share(1, 0, 4), Bench.share(3, 1, 1), Bench.share(3, -1, 1), Bench.share(3, 0, 1));
        Due.is("14: 138 comes below itself in just 2001", 2001, y.height(138, 2001));
        Due.is("23: 2001 are too many", 138, y.least(138, 2000));
        Due.is("23: 138 is not asked", 0, y.least(137, 2000));
        Due.is("23: 1 does, though it grows", 0, Bench.alike(2, 1, 1, 1).least(1, 5));
        Due.is("23: 2 does not", 2, Bench.alike(2, 1, 1, 1).least(2, 5));
        Due.is("23: like itself is not below", 2, Bench.alike(2, 1, 0, 1).least(2, 2000));
        Due.is("23: below 1 is below too", 0, Bench.alike(2, 0, -5, 1).least(20000, 1));
    }

    /** "The numbers from 1 to n (at most 20000)": 20000 is slower than all below it. */
    private static void leastUpTo20000() {
        StepBench x = Bench.withRule(Bench.share(9, 0, 5), Bench.share(2, 3, 5), Bench.share(4, -3, 5),
            Bench.share(3, 1, 5), Bench.share(2, 2, 5));
        Due.is("23: 20000 in 47", 0, x.least(20000, 47));
        Due.is("23: 20000 not in 46", 20000, x.least(20000, 46));
        Due.is("23: all others in 46", 0, x.least(19999, 46));
    }

    /** "(One that ENDS or is BEYOND ahead of that does not; 1 does.)" */
    private static void leastEndsOrIsBeyond() {
        StepBench list = Bench.withList(5, 3, 1, 5, 1, 2);
        Due.is("23: 3 to 5 to 1", 0, list.least(6, 2));
        Due.is("23: 3 to 5 to 1 is two", 3, list.least(6, 1));
        Due.is("23: 7 ends at once", 7, list.least(20000, 2000));
        Due.is("23: 1 does, though it ends", 0, Bench.withList().least(1, 2000));
        Due.is("23: 2 ends and does not", 2, Bench.withList().least(2, 2000));
        Due.is("23: 2 ends behind one step", 2, Bench.withList(3, 2).least(2, 2000));
        StepBench rule = Bench.withRule(Bench.share(1, 0, 2), Bench.share(1000, 1, 1));
        Due.is("23: 3 is beyond ahead", 3, rule.least(20000, 2000));
        StepBench far = Bench.withRule(Bench.share(1, 0, 3), Bench.share(1000, 3, 1), Bench.share(1, 1, 3));
        Due.is("23: 4 is beyond ahead", 4, far.least(20000, 2000));
        StepBench down = Bench.alike(2, -1000, 0, 1);
        Due.is("23: below at once, beyond later", 0, down.least(20000, 2000));
    }
}
