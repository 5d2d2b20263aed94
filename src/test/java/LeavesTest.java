/**
 * What each call leaves as it was: a refused call everything, an answer without a state change everything,
 * the others all but the parts that they name. Two benches are made alike, one of them takes the call, and
 * then both are looked at part by part.
 */
public final class LeavesTest {
    private static final long MOST = 1000000000000000L;

    /** A call on a bench. */
    private interface Of {
        long answer(StepBench x);
    }

    /** A bench in some state, made anew each time. */
    private interface Make {
        StepBench bench();
    }

    private static String state = "";
    private static Make make = StepBench::new;

    public static void main(String[] args) {
        states("a new one", StepBench::new);
        states("with a rule", LeavesTest::withRule);
        states("with a list", LeavesTest::withList);
        states("without a rule", LeavesTest::withoutRule);
        states("with all full", LeavesTest::full);
        refusedOfRule();
        refusedOfList();
        refusedOfFull();
        refusedWithout();
        changesOfRule();
        changesOfList();
        unfitDraft();
        Due.close("LeavesTest");
    }

    // ---- states

    /** A row, a word, acts, a draft and a sheet, all unlike what is new. */
    private static void addRest(StepBench x) {
        x.rest(0);
        x.rest(1);
        x.rest(1);
        x.act(1, 0, 1, 2);
        x.act(0, 1, 0, 0);
        x.act(2, 0, 0, 0);
        x.go(5, 6, 7, 8, 3);
        x.draft(3);
        Bench.lay(x, 0, 2, 0, -4);
        Bench.lay(x, 1, 6, 8, 10);
        Bench.lay(x, 2, 2, 4, 1);
        x.sheet(1, 3);
        x.entry(0, 11);
        x.entry(2, -12);
    }

    private static StepBench withRule() {
        StepBench x = Bench.threeQuarters();
        addRest(x);
        return x;
    }

    private static StepBench withList() {
        StepBench x = Bench.withList(3, 2, 10, 21, 7, 5);
        addRest(x);
        return x;
    }

    private static StepBench withoutRule() {
        StepBench x = new StepBench();
        addRest(x);
        return x;
    }

    /** A list of 40, a word of 40, 12 acts, a missing sheet. */
    private static StepBench full() {
        StepBench x = new StepBench();
        for (int i = 0; i < 40; i++) {
            x.rest(i % 3 == 0 ? 1 : 0);
        }
        for (int i = 0; i < 12; i++) {
            x.act(i % 3, i % 4, i, 11 - i);
        }
        x.go(1000, 1000, 1000, 1000, 9);
        x.list();
        for (int i = 0; i < 40; i++) {
            x.fraction(i + 1, 1000003 - i);
        }
        x.sheet(3, 0);
        return x;
    }

    // ---- how it is asked

    private static void in(String name, Make of) {
        state = name;
        make = of;
    }

    private static void leaves(String call, Of of, String... mayChange) {
        StepBench taken = make.bench();
        Due.outcome(() -> of.answer(taken));
        Parts seen = new Parts(taken);
        Parts due = new Parts(make.bench());
        for (int i = 0; i < Parts.NAMES.length; i++) {
            if (!isOne(Parts.NAMES[i], mayChange)) {
                Due.text(call + " " + state + ", " + Parts.NAMES[i], due.part(i), seen.part(i));
            }
        }
    }

    private static boolean isOne(String part, String... parts) {
        for (String one : parts) {
            if (one.equals(part)) {
                return true;
            }
        }
        return false;
    }

    /** The call answers that it does not do it, and leaves everything. */
    private static void refused(String call, String answer, Of of) {
        StepBench x = make.bench();
        Due.text(call + " " + state, answer, Due.outcome(() -> of.answer(x)));
        leaves(call, of);
    }

    private static long yes(boolean answer) {
        return answer ? 1 : 0;
    }

    // ---- calls that answer, in any state

    private static void states(String name, Make of) {
        in(name, of);
        for (int what = -1; what <= 7; what++) {
            int one = what;
            leaves("9: count(" + what + ")", x -> x.count(one));
            leaves("10: told(1, " + what + ")", x -> x.told(1, one));
            leaves("37: row(" + what + ")", x -> x.row(one));
        }
        steps();
        leaves("17: rest", x -> x.rest(2), Parts.WORD);
        leaves("18: clear", x -> x.clear(), Parts.WORD);
        leaves("19: shape", x -> x.shape(), Parts.ROW);
        leaves("20: ring", x -> x.ring(), Parts.ROW);
        leaves("21: rings", x -> x.rings(2), Parts.ROW);
        leaves("22: falls", x -> x.falls(2));
        leaves("23: least", x -> x.least(9, 9));
        leaves("24: back", x -> x.back(6), Parts.ROW);
        leaves("25: whole", x -> x.whole(2));
        leaves("26: backs", x -> x.backs(6, 3));
        leaves("27: both", x -> x.both());
        leaves("29: drift", x -> x.drift());
        leaves("30: fixed", x -> x.fixed(), Parts.ROW);
        leaves("33: go", x -> x.go(3, 2, 1, 0, 9), Parts.ROW);
        leaves("35: begins", x -> x.begins(3, 2, 1, 0));
        leaves("36: law", x -> x.law(1, 2, 3, 4, 5));
        changes();
    }

    private static void steps() {
        leaves("11: step", x -> x.step(12));
        leaves("12: run", x -> x.run(12, 3));
        leaves("12: run to the end", x -> x.run(2, 100000));
        leaves("13: until", x -> x.until(12, 27, 9));
        leaves("14: height", x -> x.height(12, 9));
        leaves("15: peak", x -> x.peak(12, 9));
        leaves("16: word", x -> x.word(12, 3), Parts.ROW);
    }

    private static void changes() {
        leaves("2: draft", x -> yes(x.draft(5)), Parts.DRAFT);
        leaves("3: sheet", x -> yes(x.sheet(2, 5)), Parts.SHEET);
        leaves("3: sheet, missing", x -> yes(x.sheet(3, 5)), Parts.SHEET);
        leaves("4: entry", x -> yes(x.entry(1, 5)), Parts.SHEET);
        leaves("5: lay", x -> x.lay(1), Parts.SHEET, Parts.DRAFT);
        leaves("6: seal", x -> x.seal(), Parts.RULE, Parts.DRAFT);
        leaves("7: list", x -> yes(x.list()), Parts.RULE);
        leaves("8: fraction", x -> x.fraction(3, 5), Parts.RULE);
        leaves("28: turn", x -> x.turn(), Parts.RULE);
        leaves("31: act", x -> x.act(1, 2, 3, 4), Parts.ACTS);
        leaves("32: scrap", x -> x.scrap(), Parts.ACTS);
        leaves("34: made", x -> x.made(), Parts.RULE);
    }

    // ---- calls that are refused

    private static void refusedOfRule() {
        in("with a rule", LeavesTest::withRule);
        refusedParts();
        refused("8: fraction of a rule", "-1", x -> x.fraction(1, 2));
        refused("10: told behind the last", "throws.NoSuchElementException", x -> x.told(4, 0));
        refused("10: told another", "throws.NoSuchElementException", x -> x.told(3, 3));
        refused("11: step beyond", "throws.ArithmeticException", x -> x.step(MOST));
        refused("11: step of no number", "throws.ArithmeticException", x -> x.step(MOST + 1));
        refused("12: run, k -1", "throws.IllegalArgumentException", x -> x.run(1, -1));
        refused("12: run beyond", "throws.ArithmeticException", x -> x.run(MOST - 2, 1));
        refused("13: until, k 100001", "-1", x -> x.until(1, 1, 100001));
        refused("14: height, k 100001", "-1", x -> x.height(1, 100001));
        refused("15: peak, k 100001", "throws.IllegalArgumentException", x -> x.peak(1, 100001));
        refused("16: word, k 0", "-1", x -> x.word(1, 0));
        refused("16: word, k 41", "-1", x -> x.word(1, 41));
        refused("16: word of no number", "-1", x -> x.word(MOST + 1, 1));
        refused("16: word beyond", "-1", x -> x.word(MOST, 2));
        refused("20: ring that is none", "0", x -> x.ring());
        refused("21: rings(0)", "-1", x -> x.rings(0));
        refused("21: rings(13)", "-1", x -> x.rings(13));
        refused("21: rings(8)", "-2", x -> x.rings(8));
        refused("22: falls(13)", "-1", x -> x.falls(13));
        refused("22: falls(8)", "-2", x -> x.falls(8));
        refused("23: least of 0", "-1", x -> x.least(0, 1));
        refused("24: back of no number", "-1", x -> x.back(MOST + 1));
        refused("26: backs, k 21", "-1", x -> x.backs(1, 21));
        refused("36: law of a rule", "-2", x -> x.law(1, 1, 1, 1, 1));
        in("with a rule that is left aside", LeavesTest::listBehindRule);
        refusedOfNoRule();
    }

    private static StepBench listBehindRule() {
        StepBench x = Bench.withRule(Bench.share(0, 4, 1), Bench.share(1, 0, 1));
        addRest(x);
        x.list();
        return x;
    }

    /** What is refused in any state that has all parts. */
    private static void refusedParts() {
        refused("2: draft(1)", "0", x -> yes(x.draft(1)));
        refused("2: draft(65)", "0", x -> yes(x.draft(65)));
        refused("3: sheet(-1, 2)", "0", x -> yes(x.sheet(-1, 2)));
        refused("3: sheet(4, 2)", "0", x -> yes(x.sheet(4, 2)));
        refused("3: sheet(0, -1)", "0", x -> yes(x.sheet(0, -1)));
        refused("3: sheet(2, 65)", "0", x -> yes(x.sheet(2, 65)));
        refused("4: entry(-1, 9)", "0", x -> yes(x.entry(-1, 9)));
        refused("4: entry(3, 9)", "0", x -> yes(x.entry(3, 9)));
        refused("5: lay(-1)", "-1", x -> x.lay(-1));
        refused("5: lay(3)", "-1", x -> x.lay(3));
        refused("9: count(7)", "-1", x -> x.count(7));
        refused("17: rest(-1)", "-1", x -> x.rest(-1));
        refused("17: rest(64)", "-1", x -> x.rest(64));
        refused("31: act(3, ..)", "-1", x -> x.act(3, 0, 0, 0));
        refused("31: act of heap 4", "-1", x -> x.act(1, 4, 0, 0));
        refused("31: act to 12", "-1", x -> x.act(0, 0, 12, 0));
        refused("33: go with 1001", "-1", x -> x.go(1001, 0, 0, 0, 9));
        refused("33: go, k 100001", "-1", x -> x.go(0, 0, 0, 0, 100001));
        refused("35: begins with 1001", "throws.IllegalArgumentException", x -> x.begins(0, 1001, 0, 0));
        refused("35: begins beyond", "throws.ArithmeticException", x -> x.begins(0, 0, 0, 17));
        refused("37: row(-1)", "throws.NoSuchElementException", x -> x.row(-1));
        refused("37: row(1000)", "throws.NoSuchElementException", x -> x.row(1000));
    }

    /** What only a rule answers. */
    private static void refusedOfNoRule() {
        refused("19: shape", "-1", x -> x.shape());
        refused("20: ring", "-1", x -> x.ring());
        refused("21: rings", "-1", x -> x.rings(1));
        refused("22: falls", "-1", x -> x.falls(1));
        refused("24: back", "-1", x -> x.back(4));
        refused("25: whole", "0", x -> x.whole(4));
        refused("26: backs", "-1", x -> x.backs(4, 0));
        refused("27: both", "-1", x -> x.both());
        refused("28: turn", "-1", x -> x.turn());
        refused("29: drift", "-2", x -> x.drift());
        refused("30: fixed", "-1", x -> x.fixed());
    }

    private static void refusedOfList() {
        in("with a list", LeavesTest::withList);
        refusedParts();
        refusedOfNoRule();
        refused("8: 0 / 1", "-1", x -> x.fraction(0, 1));
        refused("8: 1 / 1000000001", "-1", x -> x.fraction(1, 1000000001));
        refused("10: told behind the last", "throws.NoSuchElementException", x -> x.told(3, 0));
        refused("10: told another", "throws.NoSuchElementException", x -> x.told(2, 2));
        refused("11: step where it ends", "throws.NoSuchElementException", x -> x.step(11));
        refused("12: run where it ends", "throws.NoSuchElementException", x -> x.run(2, 2));
        refused("16: word beyond", "-1", x -> x.word(MOST, 2));
    }

    private static void refusedOfFull() {
        in("with all full", LeavesTest::full);
        refused("4: entry of a missing sheet", "0", x -> yes(x.entry(0, 1)));
        refused("5: lay without a draft", "-1", x -> x.lay(0));
        refused("6: seal without a draft", "throws.IllegalStateException", x -> x.seal());
        refused("8: the 41st fraction", "-1", x -> x.fraction(1, 2));
        refused("17: the 41st rest", "-1", x -> x.rest(0));
        refused("31: the 13th act", "-1", x -> x.act(2, 0, 0, 0));
    }

    private static void refusedWithout() {
        in("without a rule", LeavesTest::withoutRule);
        refusedParts();
        refusedOfNoRule();
        refused("8: fraction", "-1", x -> x.fraction(1, 2));
        refused("10: told", "throws.NoSuchElementException", x -> x.told(0, 0));
        refused("11: step", "throws.IllegalStateException", x -> x.step(1));
        refused("12: run", "throws.IllegalStateException", x -> x.run(1, 0));
        refused("13: until", "-1", x -> x.until(1, 1, 0));
        refused("14: height", "-1", x -> x.height(1, 0));
        refused("15: peak", "throws.IllegalStateException", x -> x.peak(1, 0));
        refused("16: word", "-1", x -> x.word(1, 1));
        refused("23: least", "-1", x -> x.least(1, 0));
        refused("36: law", "-2", x -> x.law(1, 1, 1, 1, 1));
        in("a new one", StepBench::new);
        refused("4: entry without a sheet", "0", x -> yes(x.entry(0, 1)));
        refused("5: lay without a sheet", "-1", x -> x.lay(0));
        refused("6: seal without a draft", "throws.IllegalStateException", x -> x.seal());
        refused("18: clear of none", "0", x -> x.clear());
        refused("32: scrap of none", "0", x -> x.scrap());
        refused("33: go without acts", "-1", x -> x.go(0, 0, 0, 0, 1));
        refused("34: made without acts", "-1", x -> x.made());
        refused("37: row(0)", "throws.NoSuchElementException", x -> x.row(0));
    }

    // ---- what stays when a part changes

    /** Once changed, a part is as the call says, whatever it was before. */
    private static void changesOfRule() {
        StepBench x = withRule();
        x.sheet(0, 2);
        x.entry(0, -10);
        x.entry(1, 12);
        x.lay(1);
        Due.text("5: the draft behind lay(1)", "0: 2 -10 2 0 12 4 -4 10 1 ", new Parts(x).part(1));
        StepBench y = withRule();
        y.draft(2);
        Due.text("2: the draft behind draft(2)", "0: 1 0 1 1 0 1 ", new Parts(y).part(1));
        StepBench z = withRule();
        z.sheet(1, 4);
        Due.text("3: the sheet behind sheet(1, 4)", "4: 0: 0 0 0 0 ", new Parts(z).part(2));
        StepBench w = withRule();
        w.seal();
        Due.text("6: the rule behind seal()", "1 3 0: 2 6 2 0 8 4 -4 10 1 ", new Parts(w).part(0));
    }

    private static void changesOfList() {
        StepBench x = withList();
        Due.is("34: made() of the acts", 7, x.made());
        x.list();
        Due.is("7: list() behind it", 0, x.count(2));
        Due.is("7: the acts stay", 7, x.made());
        x.scrap();
        Due.is("32: the list that was made stays", 7, x.count(2));
        Due.is("32: with its fractions", 22, x.told(0, 1));
    }

    /** A draft that does not fit stays, with all its values, and so does what was there else. */
    private static void unfitDraft() {
        in("with an unfit draft", LeavesTest::unfit);
        refused("6: seal()", "-2", x -> x.seal());
        StepBench x = unfit();
        x.seal();
        Bench.lay(x, 2, 2, 1);
        Due.is("6: mended, it is sealed", 0, x.seal());
        long[][] due = {{4, 6, 2}, {3, 5, 1}, {7, -7, 7}};
        for (int r = 0; r < 3; r++) {
            for (int what = 0; what < 3; what++) {
                Due.is("6: its values stayed, told(" + r + ", " + what + ")", due[r][what], x.told(r, what));
            }
        }
    }

    private static StepBench unfit() {
        StepBench x = withRule();
        x.draft(3);
        Bench.lay(x, 0, 4, 3, 7);
        Bench.lay(x, 1, 6, 5, -7);
        Bench.lay(x, 2, 2, 9, 7);
        x.sheet(2, 4);
        x.entry(3, 8);
        return x;
    }
}
