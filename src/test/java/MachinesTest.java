/** Promises 31 to 37: machines, the lists made of them, sums that no fraction changes, and the row. */
public final class MachinesTest {
    private static final String BEYOND = "ArithmeticException";
    private static final String ARGUMENT = "IllegalArgumentException";
    private static final String GONE = "NoSuchElementException";

    public static void main(String[] args) {
        act();
        scrap();
        go();
        goWhereItIsNot();
        made();
        madeOfMany();
        madeSteps();
        begins();
        law();
        lawOfAllPrimes();
        row();
        Due.close("MachinesTest");
    }

    /** Heap 0 goes over into heap 1. */
    private static StepBench mover() {
        StepBench x = new StepBench();
        x.act(1, 0, 1, 2);
        x.act(0, 1, 0, 0);
        x.act(2, 0, 0, 0);
        return x;
    }

    private static void act() {
        StepBench x = new StepBench();
        int[][] wrong = {
            {-1, 0, 0, 0}, {3, 0, 0, 0}, {0, -1, 0, 0}, {0, 4, 0, 0}, {0, 0, -1, 0}, {0, 0, 12, 0},
            {1, -1, 0, 0}, {1, 4, 0, 0}, {1, 0, -1, 0}, {1, 0, 12, 0}, {1, 0, 0, -1}, {1, 0, 0, 12},
            {Integer.MIN_VALUE, 0, 0, 0}, {0, Integer.MAX_VALUE, 0, 0}, {1, 0, Integer.MIN_VALUE, 0}
        };
        for (int[] one : wrong) {
            Due.is("31: act(" + one[0] + ", " + one[1] + ", " + one[2] + ", " + one[3] + ")", -1,
                x.act(one[0], one[1], one[2], one[3]));
        }
        Due.is("31: none came", 0, x.count(5));
        Due.is("31: j is not told to add", 0, x.act(0, 3, 11, 12));
        Due.is("31: nothing is told to stop", 1, x.act(2, -1, 99, Integer.MAX_VALUE));
        Due.is("31: the last of all", 2, x.act(1, 3, 11, 11));
        for (int i = 3; i < 12; i++) {
            Due.is("31: the next one", i, x.act(0, 0, 0, 0));
        }
        Due.is("31: the 13th", -1, x.act(2, 0, 0, 0));
        Due.is("31: stays away", 12, x.count(5));
    }

    private static void scrap() {
        StepBench x = mover();
        Due.is("32: scrap()", 3, x.scrap());
        Due.is("32: then there are none", 0, x.count(5));
        Due.is("32: scrap() again", 0, x.scrap());
        Due.is("32: nothing goes", -1, x.go(0, 0, 0, 0, 1));
        Due.is("32: nothing is made", -1, x.made());
        Due.is("32: from 0 on again", 0, x.act(2, 0, 0, 0));
        Due.is("32: it stops", 1, x.go(1, 2, 3, 4, 1));
    }

    private static void go() {
        Due.is("33: no acts", -1, new StepBench().go(0, 0, 0, 0, 0));
        StepBench x = mover();
        Due.is("33: it stops", 1, x.go(3, 4, 5, 6, 100000));
        Due.row("33: it stops", x, 0, 7, 5, 6, 8);
        int[][] wrong = {
            {-1, 0, 0, 0, 1}, {0, -1, 0, 0, 1}, {0, 0, -1, 0, 1}, {0, 0, 0, -1, 1}, {1001, 0, 0, 0, 1},
            {0, 1001, 0, 0, 1}, {0, 0, 1001, 0, 1}, {0, 0, 0, 1001, 1}, {0, 0, 0, 0, -1}, {0, 0, 0, 0, 100001}
        };
        for (int[] one : wrong) {
            Due.is("33: wrong ones", -1, x.go(one[0], one[1], one[2], one[3], one[4]));
        }
        Due.row("33: the row before stays", x, 0, 7, 5, 6, 8);
        Due.is("33: just enough", 1, x.go(3, 0, 0, 0, 8));
        Due.is("33: one too few", -2, x.go(3, 0, 0, 0, 7));
        Due.row("33: at the stop, but not stopped", x, 0, 3, 0, 0, 7);
        Due.is("33: on the way", -2, x.go(3, 0, 0, 0, 3));
        Due.row("33: on the way", x, 1, 1, 0, 0, 3);
        Due.is("33: nothing", -2, x.go(3, 2, 1, 0, 0));
        Due.row("33: nothing", x, 3, 2, 1, 0, 0);
        Due.is("33: full heaps", 1, x.go(1000, 1000, 1000, 1000, 100000));
        Due.row("33: full heaps", x, 0, 2000, 1000, 1000, 2002);
        StepBench grow = new StepBench();
        grow.act(0, 3, 0, 0);
        Due.is("33: it never stops", -2, grow.go(0, 0, 0, 1000, 100000));
        Due.row("33: it never stops", grow, 0, 0, 0, 101000, 100000);
    }

    private static void goWhereItIsNot() {
        StepBench x = new StepBench();
        x.act(1, 2, 1, 7);
        x.act(0, 0, 0, 0);
        Due.is("33: an act that is not there", 0, x.go(0, 0, 2, 0, 100));
        Due.row("33: it is not counted", x, 2, 0, 0, 0, 5);
        Due.is("33: come to within just k", 0, x.go(0, 0, 2, 0, 5));
        Due.is("33: not within fewer", -2, x.go(0, 0, 2, 0, 4));
        x.scrap();
        x.act(0, 1, 1, 0);
        Due.is("33: the one behind the last", 0, x.go(0, 0, 0, 0, 1));
        Due.row("33: the one behind the last", x, 0, 1, 0, 0, 1);
        Due.is("33: the first is there", -2, x.go(0, 0, 0, 0, 0));
    }

    private static void fractions(String call, StepBench x, long... due) {
        Due.is(call + ", how many", due.length / 2, x.count(2));
        for (int i = 0; i < due.length; i++) {
            Due.is(call + ", told(" + i / 2 + ", " + i % 2 + ")", due[i], x.told(i / 2, i % 2));
        }
    }

    private static void made() {
        Due.is("34: no acts", -1, new StepBench().made());
        StepBench x = mover();
        Due.is("34: made()", 7, x.made());
        Due.is("34: it is the rule", 2, x.count(0));
        fractions("34: made()", x, 19, 22, 29, 11, 39, 17, 1, 23, 11, 13, 17, 19, 23, 29);
        Due.is("34: a fraction behind it", 8, x.fraction(1, 2));
        Due.is("34: the acts stay", 3, x.count(5));
        StepBench y = Bench.threeHalves();
        Due.is("34: no acts", -1, y.made());
        Due.is("34: the rule stays", 1, y.count(0));
        y.act(0, 3, 11, 99);
        Due.is("34: of a rule a list", 2, y.made());
        fractions("34: an act that is not there", y, 749, 11, 11, 13);
        y.scrap();
        y.act(1, 2, 0, 11);
        y.act(2, 77, -5, -5);
        Due.is("34: another", 5, y.made());
        fractions("34: another", y, 13, 55, 107, 11, 1, 17, 11, 13, 17, 19);
        y.scrap();
        Due.is("34: no acts again", -1, y.made());
        Due.is("34: the list stays", 5, y.count(2));
    }

    private static void madeOfMany() {
        StepBench x = new StepBench();
        for (int k = 0; k < 12; k++) {
            x.act(1, k % 4, k, 11 - k);
        }
        Due.is("34: twelve that take", 36, x.made());
        Due.is("34: p of the first", 13, x.told(0, 0));
        Due.is("34: q of the first", 22, x.told(0, 1));
        Due.is("34: p of the second", 107, x.told(1, 0));
        Due.is("34: q of the 23rd", 103 * 7, x.told(22, 1));
        Due.is("34: p of the last but one", 97, x.told(34, 0));
        Due.is("34: q of the last but one", 101, x.told(34, 1));
        Due.is("34: p of the last", 103, x.told(35, 0));
        Due.is("34: q of the last", 107, x.told(35, 1));
        int[] primes = {
            11, 13, 17, 19, 23, 29, 31, 37, 41, 43, 47, 53, 59, 61, 67, 71, 73, 79, 83, 89, 97, 101, 103, 107
        };
        for (int k = 0; k < 12; k++) {
            Due.is("34: the go of act " + k, primes[2 * k], x.told(24 + k, 0));
            Due.is("34: the wait of act " + k, primes[2 * k + 1], x.told(24 + k, 1));
        }
        for (int i = 37; i <= 40; i++) {
            Due.is("34: room for fractions", i, x.fraction(1, 2));
        }
        Due.is("34: not for more", -1, x.fraction(1, 2));
    }

    private static void madeSteps() {
        StepBench x = mover();
        x.made();
        Due.is("34: each act is two steps, stop one", 27, x.run(x.begins(3, 0, 0, 0), 15));
        Due.throwsA("34: then it ends", GONE, () -> x.step(27));
        Due.is("34: 2^7 to 3^7", 2187, x.run(x.begins(7, 0, 0, 0), 31));
    }

    private static void begins() {
        StepBench x = new StepBench();
        int[][] wrong = {
            {-1, 0, 0, 0}, {0, -1, 0, 0}, {0, 0, -1, 0}, {0, 0, 0, -1}, {1001, 0, 0, 0}, {0, 1001, 0, 0},
            {0, 0, 1001, 0}, {0, 0, 0, 1001}, {1000, 1000, 1000, -1}
        };
        for (int[] one : wrong) {
            Due.throwsA("35: wrong ones", ARGUMENT, () -> x.begins(one[0], one[1], one[2], one[3]));
        }
        Due.is("35: empty heaps", 11, x.begins(0, 0, 0, 0));
        Due.is("35: 1, 2, 3, 1", 11L * 2 * 9 * 125 * 7, x.begins(1, 2, 3, 1));
        Due.is("35: 46 in one", 11L << 46, x.begins(46, 0, 0, 0));
        Due.throwsA("35: 47 in one", BEYOND, () -> x.begins(47, 0, 0, 0));
        Due.is("35: 7 to the 16", 365562236265611L, x.begins(0, 0, 0, 16));
        Due.throwsA("35: 7 to the 17", BEYOND, () -> x.begins(0, 0, 0, 17));
        Due.throwsA("35: 64 in one", BEYOND, () -> x.begins(64, 0, 0, 0));
        Due.throwsA("35: full heaps", BEYOND, () -> x.begins(1000, 1000, 1000, 1000));
        Due.throwsA("35: beyond by all together", BEYOND, () -> x.begins(20, 10, 6, 4));
        Due.throwsA("35: beyond by the first, no more of the others", BEYOND, () -> x.begins(1000, 0, 0, 0));
        Due.is("35: the same with acts", 22, mover().begins(1, 0, 0, 0));
    }

    private static void law() {
        Due.is("36: no rule", -2, new StepBench().law(1, 1, 1, 1, 1));
        Due.is("36: a rule", -2, Bench.threeHalves().law(1, 1, 1, 1, 1));
        Due.is("36: an empty list", -1, Bench.withList().law(1, 2, 3, 4, 5));
        StepBench x = Bench.withList(3, 2, 9, 4, 25, 21, 121, 5);
        Due.is("36: all like", -1, x.law(0, 0, 0, 0, 0));
        Due.is("36: 2 is not 3", 0, x.law(1, 2, 1, 1, 1));
        Due.is("36: 9 / 4 is never the first that fits", -1, x.law(3, 3, 2, 1, 1));
        Due.is("36: 25 / 21 changes it", 2, x.law(3, 3, 2, 2, 1));
        Due.is("36: 121 / 5 changes it", 3, x.law(3, 3, 2, 1, 2));
        Due.is("36: only 2", 0, x.law(1, 0, 0, 0, 0));
        Due.is("36: only 7", 2, x.law(0, 0, 0, 1, 0));
        Due.is("36: only others", 3, x.law(0, 0, 0, 0, 1));
        Due.is("36: passed over also where it alone would change", 2,
            Bench.withList(1, 1000003, 5, 2 * 1000003, 7, 3).law(0, 0, 5, 7, 0));
        Due.is("36: an earlier one that goes into q", -1, Bench.withList(2, 2, 7, 3).law(1, 2, 3, 4, 5));
        Due.is("36: a later one does not", 0, Bench.withList(1, 6, 1, 3).law(1, 0, 0, 0, 0));
        Due.is("36: the mover's sum", 0, lawOfMover(1, 1, 1));
        Due.is("36: the mover keeps nothing that has a stop", 0, lawOfMover(1, 1, 0));
    }

    private static int lawOfMover(int w0, int w1, int w) {
        StepBench x = mover();
        x.made();
        return x.law(w0, w1, 0, 0, w);
    }

    private static void lawOfAllPrimes() {
        int most = Integer.MAX_VALUE;
        int least = Integer.MIN_VALUE;
        Due.is("36: sums are exact", 0, Bench.withList(4, 9).law(1 << 30, -(1 << 30), 0, 0, 0));
        Due.is("36: greater than any int", 0, Bench.withList(1 << 29, 1).law(most, 0, 0, 0, 0));
        Due.is("36: 2^32 of them is not 0", 0, Bench.withList(4, 1).law(1 << 31, 0, 0, 0, 0));
        Due.is("36: as greatest and least", -1, Bench.withList(6, 35).law(most, least, least, most, 5));
        Due.is("36: a prime as large as can be", -1, Bench.withList(999999937, 11).law(0, 0, 0, 0, 9));
        Due.is("36: 11 is an other", 0, Bench.withList(11, 13 * 17).law(0, 0, 0, 0, 9));
        Due.is("36: 31607 twice", -1, Bench.withList(31607L * 31607, 13 * 17).law(0, 0, 0, 0, 1));
        Due.is("36: 31607 by 31601 is two", -1, Bench.withList(31607L * 31601, 121).law(3, 3, 3, 3, -1));
        Due.is("36: 10^9 is 9 and 9", -1, Bench.withList(1000000000, 11).law(1, 2, 1, 0, 18));
        Due.is("36: 7 is no other", -1, Bench.withList(49, 11).law(0, 0, 0, 2, 4));
        Due.is("36: 1 weighs nothing", -1, Bench.withList(2, 1).law(0, 5, 5, 5, 5));
        Due.is("36: 1 weighs nothing", 0, Bench.withList(2, 1).law(5, 0, 0, 0, 0));
    }

    private static void row() {
        StepBench x = Bench.threeHalves();
        Due.throwsA("37: nothing told yet", GONE, () -> x.row(0));
        x.back(8);
        Due.is("37: the first", 5, x.row(0));
        Due.is("37: the second", 16, x.row(1));
        for (int i : new int[] {-1, 2, 1000, Integer.MAX_VALUE, Integer.MIN_VALUE}) {
            Due.throwsA("37: row(" + i + ")", GONE, () -> x.row(i));
        }
        x.back(0);
        Due.throwsA("37: of a shorter one no more", GONE, () -> x.row(1));
        Due.is("37: told last", 0, x.row(0));
        x.list();
        x.clear();
        x.scrap();
        Due.is("37: it stays", 1, x.count(3));
    }
}
