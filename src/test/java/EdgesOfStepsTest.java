/** Promises 11 to 16, sentence by sentence, where they name an edge. */
public final class EdgesOfStepsTest {
    private static final long MOST = 1000000000000000L;
    private static final String STATE = "IllegalStateException";
    private static final String ARGUMENT = "IllegalArgumentException";
    private static final String ENDS = "NoSuchElementException";
    private static final String BEYOND = "ArithmeticException";
    private static final int[] WRONG_K = {-1, -2, 100001, 200000, Integer.MIN_VALUE, Integer.MAX_VALUE};

    public static void main(String[] args) {
        stepWithoutRule();
        stepEndsOrIsBeyond();
        runAsksForKFirst();
        runOfNone();
        runOfMost();
        runToTheEnd();
        untilItself();
        untilWithinK();
        untilNone();
        untilFirstTime();
        heightBelowItself();
        heightWithinK();
        heightNone();
        peakAsFarAsItGoes();
        peakAsksAsRun();
        wordOfOneToForty();
        wordUpToTheEnd();
        wordBeyond();
        Due.close("EdgesOfStepsTest");
    }

    /** x + 1 for each x. */
    private static StepBench oneOn() {
        return Bench.alike(2, 1, 1, 1);
    }

    /** x / 2, and 1 ends. */
    private static StepBench halves() {
        return Bench.withList(1, 2);
    }

    // ---- 11: step

    /** "IllegalStateException: no RULE." */
    private static void stepWithoutRule() {
        StepBench x = new StepBench();
        x.draft(2);
        Due.throwsA("11: a draft is no rule", STATE, () -> x.step(1));
        Due.throwsA("11: nor for 0", STATE, () -> x.step(0));
        x.seal();
        Due.is("11: sealed it is", 1, x.step(1));
        StepBench y = new StepBench();
        y.act(2, 0, 0, 0);
        Due.throwsA("11: nor are acts", STATE, () -> y.step(11));
        y.made();
        Due.is("11: made they are: 11 / 11", 1, y.step(11));
    }

    /** "NoSuchElementException: it ENDS; ArithmeticException: BEYOND." */
    private static void stepEndsOrIsBeyond() {
        StepBench x = Bench.withList(3, 2, 1, 5);
        Due.throwsA("11: by none", ENDS, () -> x.step(7));
        Due.throwsA("11: 0", ENDS, () -> x.step(0));
        Due.throwsA("11: the least number", ENDS, () -> x.step(-MOST));
        Due.throwsA("11: the greatest, beyond by the first", BEYOND, () -> x.step(MOST));
        Due.is("11: a number by the second", MOST / 5 - 1, x.step(MOST - 5));
        Due.throwsA("11: a large odd one, by none", ENDS, () -> x.step(MOST - 3));
        Due.is("11: a rule never ends", 0, Bench.alike(2, 0, 0, 1).step(-MOST));
    }

    // ---- 12: run

    /** "k STEPS (0 .. 100000) .. IllegalArgumentException: another k (asked first)." */
    private static void runAsksForKFirst() {
        for (int k : WRONG_K) {
            Due.throwsA("12: k " + k, ARGUMENT, () -> Bench.threeHalves().run(1, k));
            Due.throwsA("12: ahead of no rule, k " + k, ARGUMENT, () -> new StepBench().run(1, k));
            Due.throwsA("12: ahead of no number, k " + k, ARGUMENT, () -> Bench.threeHalves().run(MOST + 1, k));
            Due.throwsA("12: ahead of the end, k " + k, ARGUMENT, () -> Bench.withList().run(1, k));
            Due.throwsA("12: ahead of all, k " + k, ARGUMENT, () -> new StepBench().run(MOST + 1, k));
        }
        for (int k : new int[] {0, 1, 100000}) {
            Due.throwsA("12: no rule, k " + k, STATE, () -> new StepBench().run(1, k));
            Due.throwsA("12: no number, k " + k, BEYOND, () -> Bench.threeHalves().run(MOST + 1, k));
        }
    }

    /** 0 STEPS: where it is. */
    private static void runOfNone() {
        Due.is("12: 0 steps of the greatest", MOST, oneOn().run(MOST, 0));
        Due.is("12: 0 steps of the least", -MOST, oneOn().run(-MOST, 0));
        Due.is("12: 0 steps where a list would end", 7, Bench.withList(3, 2).run(7, 0));
        Due.is("12: 0 steps of 0 by a list", 0, Bench.withList(3, 2).run(0, 0));
        Due.is("12: 0 steps without fractions", 5, Bench.withList().run(5, 0));
        Due.throwsA("12: 0 steps of no number", BEYOND, () -> oneOn().run(-MOST - 1, 0));
        Due.is("12: 1 step is step()", oneOn().step(41), oneOn().run(41, 1));
    }

    /** 100000 STEPS, and what comes BEYOND on the way. */
    private static void runOfMost() {
        Due.is("12: 100000 steps", 100000, oneOn().run(0, 100000));
        Due.is("12: 99999 steps", 99999, oneOn().run(0, 99999));
        Due.is("12: the last of them to the greatest", MOST, oneOn().run(MOST - 100000, 100000));
        Due.throwsA("12: the last of them beyond", BEYOND, () -> oneOn().run(MOST - 99999, 100000));
        Due.is("12: one fewer is not", MOST, oneOn().run(MOST - 99999, 99999));
        Due.throwsA("12: beyond long ago", BEYOND, () -> oneOn().run(MOST, 100000));
        StepBench there = Bench.withRule(Bench.share(2, 1, 1), Bench.share(0, 3, 1));
        Due.throwsA("12: beyond, though the next step were back to 3", BEYOND, () -> there.run(MOST / 2, 2));
        Due.is("12: one below it comes back", 3, there.run(MOST / 2 - 2, 2));
    }

    /** "(It ENDS: the LIST did within these.)" */
    private static void runToTheEnd() {
        StepBench x = halves();
        Due.is("12: 2^40, 40 steps", 1, x.run(1L << 40, 40));
        Due.throwsA("12: 2^40, 41 steps", ENDS, () -> x.run(1L << 40, 41));
        Due.throwsA("12: 2^40, 100000 steps", ENDS, () -> x.run(1L << 40, 100000));
        StepBench y = Bench.withList(3, 2);
        Due.is("12: 2^49 by 3 / 2", 3 * (1L << 48), y.run(1L << 49, 1));
        Due.throwsA("12: then beyond, ahead of the end", BEYOND, () -> y.run(1L << 49, 2));
        Due.throwsA("12: and nowhere from there", BEYOND, () -> y.run(1L << 49, 100000));
        Due.is("12: all 2s of 2^31", 617673396283947L, y.run(1L << 31, 31));
        Due.throwsA("12: it ends, not beyond", ENDS, () -> y.run(1L << 31, 32));
    }

    // ---- 13: until

    /** "0: x is it." */
    private static void untilItself() {
        for (int k : new int[] {0, 1, 99999, 100000}) {
            Due.is("13: itself, k " + k, 0, oneOn().until(5, 5, k));
            Due.is("13: the greatest itself, k " + k, 0, oneOn().until(MOST, MOST, k));
            Due.is("13: itself where a list ends, k " + k, 0, Bench.withList().until(5, 5, k));
            Due.is("13: itself where a list is below 1, k " + k, 0, Bench.withList().until(-5, -5, k));
            Due.is("13: no rule, k " + k, -1, new StepBench().until(5, 5, k));
            Due.is("13: no number, k " + k, -1, oneOn().until(MOST + 1, MOST + 1, k));
        }
    }

    /** "At most k (0 .. 100000)"; "SPENT: not within k." */
    private static void untilWithinK() {
        for (int k : WRONG_K) {
            Due.is("13: k " + k, -1, oneOn().until(5, 6, k));
            Due.is("13: itself, k " + k, -1, oneOn().until(5, 5, k));
        }
        Due.is("13: the next, k 0", -2, oneOn().until(5, 6, 0));
        Due.is("13: the next, k 1", 1, oneOn().until(5, 6, 1));
        Due.is("13: 100000 on, k 100000", 100000, oneOn().until(0, 100000, 100000));
        Due.is("13: 100000 on, k 99999", -2, oneOn().until(0, 100000, 99999));
        Due.is("13: 100001 on, k 100000", -2, oneOn().until(0, 100001, 100000));
        Due.is("13: to the greatest, k 100000", 100000, oneOn().until(MOST - 100000, MOST, 100000));
        Due.is("13: to the greatest, k 99999", -2, oneOn().until(MOST - 100000, MOST, 99999));
    }

    /** "NONE: it ENDS or is BEYOND ahead of it." */
    private static void untilNone() {
        Due.is("13: beyond at step 100000", -1, oneOn().until(MOST - 99999, 5, 100000));
        Due.is("13: at the greatest at step 100000", -2, oneOn().until(MOST - 100000, 5, 100000));
        Due.is("13: beyond at step 3", -1, oneOn().until(MOST - 2, 5, 3));
        Due.is("13: not yet at step 2", -2, oneOn().until(MOST - 2, 5, 2));
        Due.is("13: there ahead of beyond", 2, oneOn().until(MOST - 2, MOST, 100000));
        StepBench x = halves();
        Due.is("13: it ends at step 4", -1, x.until(8, 3, 4));
        Due.is("13: not yet at step 3", -2, x.until(8, 3, 3));
        Due.is("13: there ahead of the end", 3, x.until(8, 1, 100000));
        Due.is("13: 0 is never there", -1, x.until(8, 0, 100000));
        Due.is("13: of an empty list", -1, Bench.withList().until(8, 4, 1));
        Due.is("13: of an empty list, no step", -2, Bench.withList().until(8, 4, 0));
        Due.is("13: by a list beyond", -1, Bench.withList(2, 1).until(MOST, 5, 1));
        Due.is("13: by a list beyond, k 0", -2, Bench.withList(2, 1).until(MOST, 5, 0));
    }

    /** "For the first time." */
    private static void untilFirstTime() {
        StepBench x = Bench.threeHalves();
        Due.is("13: 1 to 2", 1, x.until(1, 2, 100000));
        Due.is("13: 2 to 1", 1, x.until(2, 1, 100000));
        Due.is("13: 8 to 2", 2, x.until(8, 2, 100000));
        Due.is("13: -1 stays", 0, x.until(-1, -1, 100000));
    }

    // ---- 14: height

    /** "x is below itself for the first time." */
    private static void heightBelowItself() {
        Due.is("14: like itself is not below", -2, Bench.alike(2, 1, 0, 1).height(5, 100000));
        Due.is("14: one less is", 1, Bench.alike(2, 1, -1, 1).height(5, 100000));
        Due.is("14: 0 to -1", 1, Bench.alike(2, 1, -1, 1).height(0, 1));
        Due.is("14: -5 to -6", 1, Bench.alike(2, 1, -1, 1).height(-5, 1));
        Due.is("14: to the least", 1, Bench.alike(2, 1, -1, 1).height(1 - MOST, 1));
        StepBench x = Bench.threeHalves();
        Due.is("14: 2 to 1", 1, x.height(2, 9));
        Due.is("14: 1 to 2 to 1", -2, x.height(1, 100000));
        Due.is("14: 3, 5, 8, 4, 2", 4, x.height(3, 100000));
        Due.is("14: -5, -7, that is below", 1, x.height(-5, 100000));
        Due.is("14: -10, -5, -7, -10 again", -2, x.height(-10, 100000));
    }

    /** "At most k"; "else as until()": SPENT, NONE. */
    private static void heightWithinK() {
        for (int k : WRONG_K) {
            Due.is("14: k " + k, -1, Bench.threeHalves().height(6, k));
        }
        Due.is("14: k 0", -2, Bench.threeHalves().height(6, 0));
        Due.is("14: k 1", 1, Bench.threeHalves().height(6, 1));
        Due.is("14: 27 in 59, k 59", 59, Bench.threeHalves().height(27, 59));
        Due.is("14: 27 in 59, k 58", -2, Bench.threeHalves().height(27, 58));
        Due.is("14: 27 in 59, k 100000", 59, Bench.threeHalves().height(27, 100000));
        Due.is("14: 138 in 2001", 2001, slowFall().height(138, 100000));
        Due.is("14: 138 in 2001, k 2000", -2, slowFall().height(138, 2000));
        StepBench x = longWay();
        Due.is("14: in just 100000", 100000, x.height(3090372055811L, 100000));
        Due.is("14: not within 99999", -2, x.height(3090372055811L, 99999));
        Due.is("14: another in just 100000", 100000, x.height(3279080267781L, 100000));
    }

    /** Of 62 rests the odd ones 63 / 62, the even ones 61 / 62, with the least b that makes them whole. */
    private static StepBench longWay() {
        long[][] shares = new long[62][];
        for (int r = 0; r < 62; r++) {
            int a = r % 2 == 0 ? 61 : 63;
            shares[r] = Bench.share(a, Math.floorMod(-a * r, 62), 62);
        }
        return Bench.withRule(shares);
    }

    /** 138 comes below itself behind 2001 steps. */
    private static StepBench slowFall() {
        return Bench.withRule(Bench.share(1, 0, 4), Bench.share(3, 1, 1), Bench.share(3, -1, 1), Bench.share(3, 0, 1));
    }

    private static void heightNone() {
        Due.is("14: no rule", -1, new StepBench().height(6, 0));
        Due.is("14: beyond at step 100000", -1, oneOn().height(MOST - 99999, 100000));
        Due.is("14: at the greatest at step 100000", -2, oneOn().height(MOST - 100000, 100000));
        Due.is("14: beyond at step 1", -1, oneOn().height(MOST, 1));
        Due.is("14: beyond at step 1, k 0", -2, oneOn().height(MOST, 0));
        Due.is("14: beyond below is not below", -1, Bench.alike(2, 1, -1, 1).height(-MOST, 1));
        Due.is("14: by a list to the end", -1, Bench.withList(3, 2).height(8, 4));
        Due.is("14: by a list, not yet", -2, Bench.withList(3, 2).height(8, 3));
        Due.is("14: by a list below", 1, halves().height(2, 100000));
        Due.is("14: by a list 1 ends", -1, halves().height(1, 100000));
        Due.is("14: by a list 0 ends", -1, halves().height(0, 100000));
        Due.is("14: by a list 0, k 0", -2, halves().height(0, 0));
        Due.is("14: below just ahead of the end", 2, Bench.withList(5, 3, 1, 5).height(3, 100000));
    }

    // ---- 15: peak

    /** "The greatest of x and what it comes to .., as far as it goes (up to where it ENDS or is BEYOND)." */
    private static void peakAsFarAsItGoes() {
        Due.is("15: no steps", 5, oneOn().peak(5, 0));
        Due.is("15: one step", 6, oneOn().peak(5, 1));
        Due.is("15: 100000 steps", 100005, oneOn().peak(5, 100000));
        Due.is("15: x itself", 5, Bench.alike(2, 1, -1, 1).peak(5, 100000));
        Due.is("15: x itself below 0", -5, Bench.alike(2, 1, -1, 1).peak(-5, 100000));
        Due.is("15: up to the greatest", MOST, oneOn().peak(MOST - 3, 3));
        Due.is("15: up to beyond", MOST, oneOn().peak(MOST - 3, 100000));
        Due.is("15: beyond at once", MOST, oneOn().peak(MOST, 100000));
        Due.is("15: beyond below at once", -MOST, Bench.alike(2, 1, -1, 1).peak(-MOST, 100000));
        Due.is("15: below 0 and up to beyond", -1, Bench.alike(2, 10, 0, 1).peak(-1, 100000));
        Due.is("15: on both sides of 0, two steps", 10, Bench.alike(2, -10, 0, 1).peak(-1, 2));
        Due.is("15: on both sides of 0, three steps", 1000, Bench.alike(2, -10, 0, 1).peak(-1, 3));
        Due.is("15: in the middle", 4616, Bench.threeHalves().peak(27, 70));
        Due.is("15: to the end", 27, Bench.withList(3, 2).peak(8, 100000));
        Due.is("15: by a list, within k", 18, Bench.withList(3, 2).peak(8, 2));
        Due.is("15: at the end at once", 7, Bench.withList(3, 2).peak(7, 100000));
        Due.is("15: by a list 0", 0, Bench.withList(3, 2).peak(0, 1));
        Due.is("15: by a list below 1", -MOST, Bench.withList(3, 2).peak(-MOST, 1));
        Due.is("15: by a list to beyond", 3 * (1L << 48), Bench.withList(3, 2).peak(1L << 49, 100000));
    }

    /** "IllegalStateException, IllegalArgumentException as run(); ArithmeticException: x is no NUMBER." */
    private static void peakAsksAsRun() {
        for (int k : WRONG_K) {
            Due.throwsA("15: k " + k, ARGUMENT, () -> oneOn().peak(1, k));
            Due.throwsA("15: ahead of no rule, k " + k, ARGUMENT, () -> new StepBench().peak(1, k));
            Due.throwsA("15: ahead of no number, k " + k, ARGUMENT, () -> oneOn().peak(MOST + 1, k));
            Due.throwsA("15: ahead of all, k " + k, ARGUMENT, () -> new StepBench().peak(MOST + 1, k));
        }
        for (int k : new int[] {0, 1, 100000}) {
            Due.throwsA("15: no rule, k " + k, STATE, () -> new StepBench().peak(1, k));
            Due.throwsA("15: no number, k " + k, BEYOND, () -> oneOn().peak(MOST + 1, k));
            Due.throwsA("15: no number below, k " + k, BEYOND, () -> oneOn().peak(-MOST - 1, k));
        }
    }

    // ---- 16: word

    /** "k of them (1 .. 40): how many .. NONE: no RULE, no NUMBER, another k." */
    private static void wordOfOneToForty() {
        StepBench x = Bench.threeHalves();
        for (int k = 1; k <= 40; k++) {
            Due.is("16: word(27, " + k + ")", k, x.word(27, k));
            Due.is("16: in the row", k, x.count(3));
        }
        for (int k : new int[] {0, -1, 41, 100, Integer.MIN_VALUE, Integer.MAX_VALUE}) {
            Due.is("16: word(27, " + k + ")", -1, x.word(27, k));
            Due.is("16: of a list, word(27, " + k + ")", -1, Bench.withList(3, 1).word(27, k));
        }
        Due.is("16: no number", -1, x.word(MOST + 1, 40));
        Due.is("16: no number below", -1, x.word(-MOST - 1, 1));
        Due.is("16: the row before stays", 40, x.count(3));
        Due.is("16: no rule", -1, new StepBench().word(27, 1));
        StepBench m = Bench.alike(64, 1, 63, 1);
        Due.is("16: rests of 64", 3, m.word(64, 3));
        Due.row("16: 0, 63, 62", m, 0, 63, 62);
        Due.is("16: of negative ones", 3, m.word(-64, 3));
        Due.row("16: 0, 63, 62 again", m, 0, 63, 62);
    }

    /** "(Of a LIST: the numbers of the fractions by which it STEPS, up to where it ENDS.)" */
    private static void wordUpToTheEnd() {
        StepBench x = Bench.withList(1, 7, 1, 2);
        Due.is("16: to the end", 4, x.word(7 * 8, 40));
        Due.row("16: to the end", x, 0, 1, 1, 1);
        Due.is("16: just to the end", 4, x.word(7 * 8, 4));
        Due.is("16: short of the end", 3, x.word(7 * 8, 3));
        Due.row("16: short of the end", x, 0, 1, 1);
        Due.is("16: it ends at once", 0, x.word(3, 40));
        Due.row("16: none then", x);
        x.word(8, 3);
        Due.is("16: 0 ends at once", 0, x.word(0, 1));
        Due.row("16: none then", x);
        Due.is("16: of an empty list", 0, Bench.withList().word(1, 40));
        Due.is("16: 40 of 49", 40, x.word(1L << 49, 40));
        StepBench many = new StepBench();
        many.list();
        for (int i = 0; i < 40; i++) {
            many.fraction(1, 40 - i);
        }
        Due.is("16: the last of 40 fractions", 40, many.word(1, 40));
        Due.is("16: is number 39", 39, many.row(0));
        many.word(40 * 39, 2);
        Due.row("16: the first and the second", many, 0, 1);
    }

    /** "BEYOND (ahead of the last STEP that is needed)": the one by the last REST or fraction is not looked at. */
    private static void wordBeyond() {
        StepBench x = oneOn();
        Due.is("16: the greatest alone", 1, x.word(MOST, 1));
        Due.row("16: the greatest alone", x, 0);
        Due.is("16: and one beyond", -1, x.word(MOST, 2));
        Due.row("16: the row before stays", x, 0);
        Due.is("16: 40 up to the greatest", 40, x.word(MOST - 39, 40));
        Due.is("16: 40 to one beyond", -1, x.word(MOST - 38, 40));
        Due.is("16: 39 of them", 39, x.word(MOST - 38, 39));
        StepBench y = Bench.withList(2, 1);
        Due.is("16: by a list, the greatest alone", 1, y.word(MOST, 1));
        Due.row("16: by a list, the greatest alone", y, 0);
        Due.is("16: by a list, and one beyond", -1, y.word(MOST, 2));
        Due.is("16: by a list, two from half of it", 2, y.word(MOST / 2, 2));
        Due.is("16: by a list, three from half of it", -1, y.word(MOST / 2, 3));
        Due.row("16: the row before stays", y, 0, 0);
    }
}
