/** Promises 11 to 16: single steps, many, and what comes up on the way. */
public final class StepsTest {
    private static final long MOST = 1000000000000000L;
    private static final String STATE = "IllegalStateException";
    private static final String ARGUMENT = "IllegalArgumentException";
    private static final String ENDS = "NoSuchElementException";
    private static final String BEYOND = "ArithmeticException";

    public static void main(String[] args) {
        stepOfRule();
        stepOfList();
        run();
        until();
        height();
        peak();
        wordOfRule();
        wordOfList();
        Due.close("StepsTest");
    }

    private static void stepOfRule() {
        Due.throwsA("11: without a rule", STATE, () -> new StepBench().step(1));
        Due.throwsA("11: without a rule, no number", STATE, () -> new StepBench().step(MOST + 1));
        StepBench x = Bench.withRule(Bench.share(1, 0, 2), Bench.share(3, 1, 2));
        long[][] due = {{0, 0}, {1, 2}, {2, 1}, {-1, -1}, {-2, -1}, {-3, -4}, {7, 11}, {-5, -7}, {MOST, MOST / 2}};
        for (long[] one : due) {
            Due.is("11: step(" + one[0] + ")", one[1], x.step(one[0]));
        }
        Due.is("11: just within", 999999999999998L, x.step(666666666666665L));
        Due.throwsA("11: just beyond", BEYOND, () -> x.step(666666666666667L));
        Due.throwsA("11: beyond below", BEYOND, () -> x.step(-666666666666669L));
        Due.is("11: the least", -MOST, x.step(-666666666666667L));
        Due.throwsA("11: no number", BEYOND, () -> x.step(MOST + 1));
        Due.throwsA("11: no number, even", BEYOND, () -> x.step(-MOST - 2));
        Due.throwsA("11: no number at all", BEYOND, () -> x.step(Long.MIN_VALUE));
        Due.throwsA("11: no number at all", BEYOND, () -> x.step(Long.MAX_VALUE));
        StepBench y = Bench.alike(2, 1000, -1000, 1);
        Due.throwsA("11: far beyond", BEYOND, () -> y.step(MOST));
        Due.throwsA("11: far beyond below", BEYOND, () -> y.step(-MOST));
        Due.is("11: the last within", MOST - 1000, y.step(MOST / 1000));
        StepBench z = Bench.alike(2, -1, 0, 1);
        Due.is("11: the greatest to the least", -MOST, z.step(MOST));
        StepBench one = Bench.alike(2, 1, 1, 1);
        Due.throwsA("11: one more than the greatest", BEYOND, () -> one.step(MOST));
        Due.is("11: up to the greatest", MOST, one.step(MOST - 1));
        Due.is("11: rests of negative numbers", -1,
            Bench.withRule(Bench.share(0, 5, 1), Bench.share(0, 6, 1), Bench.share(0, -1, 1)).step(-1));
    }

    private static void stepOfList() {
        StepBench x = Bench.withList(3, 2, 5, 3, 1000000000, 7);
        Due.is("11: by the first that fits", 9, x.step(6));
        Due.is("11: by the second", 15, x.step(9));
        Due.is("11: by the third", 1000000000, x.step(7));
        Due.throwsA("11: by none", ENDS, () -> x.step(5));
        Due.throwsA("11: 0", ENDS, () -> x.step(0));
        Due.throwsA("11: below 0", ENDS, () -> x.step(-6));
        Due.throwsA("11: beyond by the first, though the next were not", BEYOND,
            () -> Bench.withList(3, 2, 1, 5).step(MOST));
        Due.throwsA("11: no number", BEYOND, () -> x.step(MOST + 2));
        Due.throwsA("11: an empty list", ENDS, () -> Bench.withList().step(1));
        StepBench y = Bench.withList(1000000000, 1);
        Due.is("11: up to the greatest", MOST, y.step(1000000));
        Due.throwsA("11: beyond", BEYOND, () -> y.step(1000001));
        Due.throwsA("11: far beyond", BEYOND, () -> y.step(MOST));
        Due.is("11: p is lowest, so q is what goes into x", 3, Bench.withList(6, 4).step(2));
    }

    private static void run() {
        for (int k : new int[] {-1, 100001, Integer.MIN_VALUE, Integer.MAX_VALUE}) {
            Due.throwsA("12: asked first, k " + k, ARGUMENT, () -> new StepBench().run(MOST + 1, k));
            Due.throwsA("12: of a rule, k " + k, ARGUMENT, () -> Bench.threeHalves().run(1, k));
        }
        Due.throwsA("12: no rule", STATE, () -> new StepBench().run(1, 0));
        Due.throwsA("12: no rule, no number", STATE, () -> new StepBench().run(MOST + 1, 0));
        StepBench x = Bench.threeHalves();
        Due.is("12: no steps", 27, x.run(27, 0));
        Due.throwsA("12: no steps of no number", BEYOND, () -> x.run(MOST + 1, 0));
        Due.is("12: 27 comes to 1 behind 70", 1, x.run(27, 70));
        Due.is("12: one before", 2, x.run(27, 69));
        Due.is("12: round and round", 1, x.run(1, 100000));
        Due.is("12: on the other half", 2, x.run(1, 99999));
        StepBench one = Bench.alike(3, 1, 1, 1);
        Due.is("12: 100000 steps", 100000, one.run(0, 100000));
        Due.is("12: up to the greatest", MOST, one.run(MOST - 9, 9));
        Due.throwsA("12: and beyond", BEYOND, () -> one.run(MOST - 9, 10));
        StepBench back = Bench.alike(2, -1000, 0, 1);
        Due.throwsA("12: beyond on the way", BEYOND, () -> back.run(1, 6));
        Due.is("12: the last within", -MOST, back.run(1, 5));
        StepBench list = Bench.withList(3, 2);
        Due.is("12: of a list", 27, list.run(8, 3));
        Due.throwsA("12: it ends", ENDS, () -> list.run(8, 4));
        Due.throwsA("12: it ended long ago", ENDS, () -> list.run(8, 100000));
        Due.is("12: it has not to step", -8, list.run(-8, 0));
        Due.throwsA("12: below 1", ENDS, () -> list.run(-8, 1));
    }

    private static void until() {
        StepBench x = Bench.threeHalves();
        Due.is("13: no rule", -1, new StepBench().until(1, 1, 1));
        Due.is("13: itself", 0, x.until(5, 5, 0));
        Due.is("13: itself, many steps", 0, x.until(1, 1, 100000));
        Due.is("13: another, no steps", -2, x.until(5, 8, 0));
        Due.is("13: in one", 1, x.until(5, 8, 1));
        Due.is("13: the first time", 2, x.until(4, 1, 100));
        Due.is("13: 27", 70, x.until(27, 1, 100000));
        Due.is("13: 27, one too few", -2, x.until(27, 1, 69));
        Due.is("13: never", -2, x.until(1, 3, 100000));
        Due.is("13: k -1", -1, x.until(1, 1, -1));
        Due.is("13: k 100001", -1, x.until(1, 1, 100001));
        Due.is("13: no number", -1, x.until(MOST + 1, MOST + 1, 5));
        Due.is("13: no number to come to", -1, x.until(1, MOST + 1, 5));
        Due.is("13: nor from", -1, x.until(-MOST - 1, 1, 5));
        Due.is("13: nor from, though it would come there", -1, x.until(MOST + 2, MOST / 2 + 1, 5));
        Due.is("13: the greatest", 1, x.until(MOST, MOST / 2, 5));
        StepBench one = Bench.alike(2, 1, 1, 1);
        Due.is("13: beyond ahead", -1, one.until(MOST - 2, 5, 3));
        Due.is("13: not yet beyond", -2, one.until(MOST - 2, 5, 2));
        Due.is("13: just ahead of beyond", 2, one.until(MOST - 2, MOST, 9));
        StepBench list = Bench.withList(3, 2);
        Due.is("13: of a list", 3, list.until(8, 27, 100));
        Due.is("13: it ends ahead", -1, list.until(8, 28, 4));
        Due.is("13: it has not ended", -2, list.until(8, 28, 3));
        Due.is("13: itself where it ends", 0, list.until(-3, -3, 4));
    }

    private static void height() {
        StepBench x = Bench.threeHalves();
        Due.is("14: no rule", -1, new StepBench().height(1, 1));
        Due.is("14: 7", 7, x.height(7, 100));
        Due.is("14: 7, just", 7, x.height(7, 7));
        Due.is("14: 7, one too few", -2, x.height(7, 6));
        Due.is("14: 27", 59, x.height(27, 100000));
        Due.is("14: even", 1, x.height(6, 1));
        Due.is("14: no steps", -2, x.height(6, 0));
        Due.is("14: one that stays", -2, x.height(0, 100000));
        Due.is("14: below 0", 1, x.height(-5, 5));
        Due.is("14: never below", -2, x.height(-2, 5));
        Due.is("14: no number", -1, x.height(MOST + 1, 5));
        Due.is("14: no number, though it would fall", -1, x.height(MOST + 2, 5));
        Due.is("14: k -1", -1, x.height(6, -1));
        Due.is("14: k 100001", -1, x.height(6, 100001));
        Due.is("14: beyond", -1, x.height(MOST - 1, 5));
        Due.is("14: beyond below is not below", -1, Bench.alike(2, 1000, 0, 1).height(-MOST, 5));
        Due.is("14: below at once", 1, Bench.alike(2, 1000, 0, 1).height(-1, 5));
        Due.is("14: a list ends", -1, Bench.withList(3, 2).height(8, 4));
        Due.is("14: a list has not ended", -2, Bench.withList(3, 2).height(8, 3));
        Due.is("14: a list falls", 1, Bench.withList(1, 2).height(8, 4));
        Due.is("14: a list below 1", -1, Bench.withList(1, 2).height(-8, 4));
        Due.is("14: a list below 1, no steps", -2, Bench.withList(1, 2).height(-8, 0));
    }

    private static void peak() {
        StepBench none = new StepBench();
        Due.throwsA("15: k first", ARGUMENT, () -> none.peak(MOST + 1, -1));
        Due.throwsA("15: k first", ARGUMENT, () -> none.peak(1, 100001));
        Due.throwsA("15: then no rule", STATE, () -> none.peak(MOST + 1, 0));
        StepBench x = Bench.threeHalves();
        Due.throwsA("15: k", ARGUMENT, () -> x.peak(1, 100001));
        Due.throwsA("15: then no number", BEYOND, () -> x.peak(-MOST - 1, 0));
        Due.is("15: no steps", 27, x.peak(27, 0));
        Due.is("15: 27", 4616, x.peak(27, 100000));
        Due.is("15: 27, a few", 71, x.peak(27, 5));
        Due.is("15: 27, one more", 107, x.peak(27, 6));
        Due.is("15: it is the greatest itself", 32, x.peak(32, 100));
        Due.is("15: below 0", -5, x.peak(-7, 7));
        Due.is("15: up to beyond", MOST - 1, x.peak(MOST - 1, 5));
        Due.is("15: some steps up to beyond", MOST, Bench.alike(2, 1, 1, 1).peak(MOST - 3, 100));
        Due.is("15: beyond below", -1, Bench.alike(2, 1000, 0, 1).peak(-1, 100));
        Due.is("15: up to where a list ends", 27, Bench.withList(3, 2).peak(8, 100));
        Due.is("15: within k", 18, Bench.withList(3, 2).peak(8, 2));
        Due.is("15: a list below 1", -4, Bench.withList(3, 2).peak(-4, 2));
    }

    private static void wordOfRule() {
        StepBench x = Bench.threeHalves();
        Due.is("16: no rule", -1, new StepBench().word(1, 1));
        x.word(6, 2);
        for (int k : new int[] {0, -1, 41, Integer.MAX_VALUE}) {
            Due.is("16: k " + k, -1, x.word(7, k));
        }
        Due.is("16: no number", -1, x.word(MOST + 1, 1));
        Due.row("16: the row before stays", x, 0, 1);
        Due.is("16: one", 1, x.word(7, 1));
        Due.row("16: one", x, 1);
        Due.is("16: six", 6, x.word(7, 6));
        Due.row("16: six", x, 1, 1, 1, 0, 1, 0);
        Due.is("16: below 0", 4, x.word(-7, 4));
        Due.row("16: below 0", x, 1, 0, 1, 1);
        Due.is("16: forty", 40, x.word(1, 40));
        Due.is("16: the last of forty", 0, x.row(39));
        Due.is("16: the word is not told so", 0, x.count(4));
        Due.is("16: beyond behind the last that is needed", 1, x.word(MOST - 1, 1));
        Due.row("16: beyond behind", x, 1);
        Due.is("16: beyond ahead", -1, x.word(MOST - 1, 2));
        Due.row("16: the row before stays", x, 1);
        Due.is("16: up to the greatest", 3, Bench.alike(5, 1, 1, 1).word(MOST - 2, 3));
        Due.is("16: and beyond", -1, Bench.alike(5, 1, 1, 1).word(MOST - 2, 4));
        StepBench three = Bench.withRule(Bench.share(1, 1, 1), Bench.share(1, -5, 1), Bench.share(1, 2, 1));
        Due.is("16: rests of negative numbers", 4, three.word(-2, 4));
        Due.row("16: -2, -7, -5, -10", three, 1, 2, 1, 2);
    }

    private static void wordOfList() {
        StepBench x = Bench.withList(3, 2, 5, 3);
        Due.is("16: of a list", 5, x.word(12, 40));
        Due.row("16: of a list", x, 0, 0, 1, 1, 1);
        Due.is("16: of a list, three", 3, x.word(12, 3));
        Due.row("16: of a list, three", x, 0, 0, 1);
        Due.is("16: it ends at once", 0, x.word(25, 4));
        Due.row("16: it ends at once", x);
        Due.is("16: below 1", 0, x.word(-12, 4));
        Due.row("16: below 1", x);
        Due.is("16: no number", -1, x.word(-MOST - 2, 4));
        Due.is("16: k 41", -1, x.word(12, 41));
        Due.is("16: beyond behind the last that is needed", 1, x.word(MOST, 1));
        Due.row("16: beyond behind", x, 0);
        Due.is("16: beyond ahead", -1, x.word(MOST, 2));
        Due.row("16: the row before stays", x, 0);
        StepBench y = Bench.withList(1, 3, 4, 2);
        Due.is("16: more of a list", 40, y.word(54, 40));
        Due.is("16: by the first three times", 0, y.row(2));
        Due.is("16: then by the second", 1, y.row(39));
    }
}
