import java.util.Arrays;

/** Promises 1 to 10, sentence by sentence, where they name an edge: the last that is allowed, the first that is not. */
public final class EdgesOfRulesTest {
    private static final String GONE = "NoSuchElementException";
    private static final String STATE = "IllegalStateException";

    public static void main(String[] args) {
        nothingAtFirst();
        nothingIsDoneAtFirst();
        measures();
        draftIsAsNew();
        sheets();
        sheetIsAllZero();
        missingSheet();
        entriesWrap();
        entriesThatAreThere();
        layAsFarAsBothGo();
        layIsRefused();
        sealAsTold();
        sealFirstRest();
        sealWhole();
        sealTakesTheDraft();
        listWithoutFractions();
        fractionsAsTold();
        fortyFractions();
        counts();
        countsOfMost();
        toldOfRule();
        toldOfList();
        Due.close("EdgesOfRulesTest");
    }

    // ---- 1: a new object

    /** "No RULE, no DRAFT, no SHEET, no ACTS; empty ROW, WORD." */
    private static void nothingAtFirst() {
        Due.is("1: no rule", 0, new StepBench().count(0));
        Due.is("1: no measure", 0, new StepBench().count(1));
        Due.is("1: no fractions", 0, new StepBench().count(2));
        Due.is("1: an empty row", 0, new StepBench().count(3));
        Due.is("1: an empty word", 0, new StepBench().count(4));
        Due.is("1: no acts", 0, new StepBench().count(5));
        Due.is("1: no sheet", -1, new StepBench().count(6));
        Due.throwsA("1: no draft", STATE, () -> new StepBench().seal());
        Due.throwsA("1: nothing in the row", GONE, () -> new StepBench().row(0));
        Due.throwsA("1: nothing told of a rule", GONE, () -> new StepBench().told(0, 0));
    }

    private static void nothingIsDoneAtFirst() {
        StepBench x = new StepBench();
        Due.is("1: no sheet to write on", false, x.entry(0, 0));
        Due.is("1: no sheet to lay", -1, x.lay(0));
        Due.is("1: no list for a fraction", -1, x.fraction(1, 1));
        Due.is("1: no rest to clear", 0, x.clear());
        Due.is("1: no act to scrap", 0, x.scrap());
        Due.is("1: no act to go", -1, x.go(0, 0, 0, 0, 0));
        Due.is("1: no act to make a list of", -1, x.made());
        Due.is("1: all this changed nothing", 0, x.count(0) + x.count(3) + x.count(4) + x.count(5));
        StepBench other = Bench.threeHalves();
        Due.is("1: another one has no part in it", 0, x.count(0));
        Due.is("1: nor this one in it", 1, other.count(0));
    }

    // ---- 2: draft

    /** "A MEASURE m (2 .. 64)"; "false for another m." */
    private static void measures() {
        for (int m = 2; m <= 64; m++) {
            StepBench x = new StepBench();
            Due.is("2: draft(" + m + ")", true, x.draft(m));
            Due.is("2: seal()", 0, x.seal());
            Due.is("2: the measure", m, x.count(1));
            Due.is("2: the last rest", 1, x.told(m - 1, 0));
            int behind = m;
            Due.throwsA("2: behind the last rest", GONE, () -> x.told(behind, 0));
        }
        int[] others = {1, 0, -1, -2, -64, 65, 66, 128, 256 + 2, 65536 + 2, Integer.MIN_VALUE, Integer.MAX_VALUE};
        for (int m : others) {
            StepBench x = new StepBench();
            Due.is("2: draft(" + m + ")", false, x.draft(m));
            Due.throwsA("2: no draft then", STATE, () -> x.seal());
        }
    }

    /** "A 1, b 0, d 1 for each REST", whatever was drafted before. */
    private static void draftIsAsNew() {
        StepBench x = new StepBench();
        x.draft(64);
        long[] many = new long[64];
        Arrays.fill(many, 7);
        Bench.lay(x, 0, many);
        Bench.lay(x, 1, many);
        Bench.lay(x, 2, many);
        x.draft(64);
        Due.is("2: a new draft is sealed", 0, x.seal());
        for (int r = 0; r < 64; r++) {
            Due.is("2: a of rest " + r, 1, x.told(r, 0));
            Due.is("2: b of rest " + r, 0, x.told(r, 1));
            Due.is("2: d of rest " + r, 1, x.told(r, 2));
        }
    }

    // ---- 3: sheet

    /** "n entries (0 .. 64)"; "false for another kind, or (of 0 to 2) n." */
    private static void sheets() {
        for (int kind = 0; kind <= 2; kind++) {
            StepBench x = new StepBench();
            for (int n = 0; n <= 64; n++) {
                Due.is("3: sheet(" + kind + ", " + n + ")", true, x.sheet(kind, n));
                Due.is("3: its entries", n, x.count(6));
            }
            for (int n : new int[] {-1, 65, -64, 256, 65536 + 1, Integer.MIN_VALUE, Integer.MAX_VALUE}) {
                StepBench none = new StepBench();
                Due.is("3: sheet(" + kind + ", " + n + ")", false, none.sheet(kind, n));
                Due.is("3: no sheet then", -1, none.count(6));
                Due.is("3: sheet(" + kind + ", " + n + ")", false, x.sheet(kind, n));
                Due.is("3: the one before stays", 64, x.count(6));
            }
        }
        for (int kind : new int[] {-1, 4, 5, 256, -256, Integer.MIN_VALUE, Integer.MAX_VALUE}) {
            StepBench none = new StepBench();
            Due.is("3: sheet(" + kind + ", 3)", false, none.sheet(kind, 3));
            Due.is("3: no sheet then", -1, none.count(6));
        }
    }

    /** "All 0", whatever was on the one before. */
    private static void sheetIsAllZero() {
        for (int kind = 0; kind <= 2; kind++) {
            StepBench x = new StepBench();
            x.sheet(2, 64);
            for (int i = 0; i < 64; i++) {
                x.entry(i, 5);
            }
            x.sheet(kind, 64);
            x.draft(64);
            Due.is("3: laid", 64, x.lay(1));
            x.seal();
            for (int r = 0; r < 64; r++) {
                Due.is("3: of kind " + kind + ", entry " + r, 0, x.told(r, 1));
            }
        }
    }

    /** "Or a missing one (3)", of which n does not matter. */
    private static void missingSheet() {
        for (int n : new int[] {0, 1, 64, 65, -1, Integer.MIN_VALUE, Integer.MAX_VALUE}) {
            StepBench x = new StepBench();
            Due.is("3: sheet(3, " + n + ")", true, x.sheet(3, n));
            Due.is("3: a missing one has no entries", 0, x.count(6));
            Due.is("4: false if it is missing", false, x.entry(0, 1));
            x.draft(2);
            Due.is("5: of a missing one none", 0, x.lay(0));
            Due.is("5: there is no sheet then", -1, x.count(6));
        }
        StepBench full = new StepBench();
        full.sheet(2, 5);
        full.sheet(3, 5);
        Due.is("3: instead of the one before", 0, full.count(6));
        Due.is("4: which cannot be written on", false, full.entry(0, 1));
        full.sheet(0, 5);
        Due.is("3: and the other way round", true, full.entry(4, 1));
    }

    // ---- 4: entry

    /** What b becomes by an entry of this kind, or that seal() refuses it. */
    private static String entered(int kind, long v) {
        StepBench x = new StepBench();
        x.draft(2);
        x.sheet(kind, 2);
        x.entry(1, v);
        x.lay(1);
        return x.seal() == 0 ? Long.toString(x.told(1, 1)) : "refused";
    }

    /** "Its lowest 8, 32, 64 bits, with a sign." */
    private static void entriesWrap() {
        long[][] bytes = {
            {0, 0}, {127, 127}, {128, -128}, {129, -127}, {255, -1}, {256, 0}, {257, 1}, {383, 127}, {384, -128},
            {-1, -1}, {-128, -128}, {-129, 127}, {-255, 1}, {-256, 0}, {-257, -1}, {1000, -24}, {65535, -1},
            {1L << 31, 0}, {(1L << 32) + 5, 5}, {Long.MAX_VALUE, -1}, {Long.MIN_VALUE, 0}, {Long.MIN_VALUE + 130, -126}
        };
        for (long[] one : bytes) {
            Due.text("4: of bytes " + one[0], Long.toString(one[1]), entered(0, one[0]));
        }
        long two32 = 1L << 32;
        long[][] ints = {
            {1000, 1000}, {-1000, -1000}, {two32, 0}, {two32 + 1000, 1000}, {two32 - 1, -1}, {two32 - 1000, -1000},
            {-two32, 0}, {-two32 - 1, -1}, {-two32 + 9, 9}, {Long.MAX_VALUE, -1}, {Long.MIN_VALUE, 0},
            {Long.MIN_VALUE + 77, 77}, {(two32 << 5) - 128, -128}
        };
        for (long[] one : ints) {
            Due.text("4: of ints " + one[0], Long.toString(one[1]), entered(1, one[0]));
        }
        // No b for a rule: so none of these wraps round into one.
        long[] noInts = {
            1001, -1001, 65536, 65541, -65536, 1 << 24, Integer.MAX_VALUE, Integer.MIN_VALUE, two32 + 1001,
            two32 - 1001, 1L << 31
        };
        for (long v : noInts) {
            Due.text("4: of ints " + v, "refused", entered(1, v));
        }
        long[] noLongs = {
            two32, two32 + 7, two32 - 1, 1L << 33, 1L << 48, 1L << 62, Long.MAX_VALUE, Long.MIN_VALUE,
            Long.MIN_VALUE + 1, -two32, 1001, -1001
        };
        for (long v : noLongs) {
            Due.text("4: of longs " + v, "refused", entered(2, v));
        }
        Due.text("4: of longs 1000", "1000", entered(2, 1000));
        Due.text("4: of longs -1000", "-1000", entered(2, -1000));
    }

    /** "False if it has none such .. or there is none." */
    private static void entriesThatAreThere() {
        for (int kind = 0; kind <= 2; kind++) {
            for (int n : new int[] {0, 1, 2, 63, 64}) {
                StepBench x = new StepBench();
                x.sheet(kind, n);
                for (int i : new int[] {-1, n, n + 1, 64, Integer.MIN_VALUE, Integer.MAX_VALUE}) {
                    Due.is("4: entry(" + i + ", 1) of " + n, false, x.entry(i, 1));
                }
                if (n > 0) {
                    Due.is("4: the first of " + n, true, x.entry(0, 1));
                    Due.is("4: the last of " + n, true, x.entry(n - 1, 1));
                }
            }
        }
        StepBench laid = new StepBench();
        Due.is("4: there is none", false, laid.entry(0, 1));
        laid.draft(2);
        laid.sheet(1, 2);
        laid.lay(0);
        Due.is("4: there is none any more", false, laid.entry(0, 1));
        laid.sheet(1, 2);
        laid.entry(1, 5);
        laid.entry(1, -6);
        laid.lay(1);
        laid.seal();
        Due.is("4: entry 1 becomes the last one", -6, laid.told(1, 1));
        Due.is("4: entry 0 stays", 0, laid.told(0, 1));
    }

    // ---- 5: lay

    /** "Entry r of REST r, as far as both go (of a missing one none): how many." */
    private static void layAsFarAsBothGo() {
        int[][] cases = {{2, 0}, {2, 1}, {2, 2}, {2, 3}, {2, 64}, {64, 0}, {64, 1}, {64, 63}, {64, 64}, {63, 64}};
        for (int[] one : cases) {
            for (int what = 0; what < 3; what++) {
                StepBench x = new StepBench();
                x.draft(one[0]);
                x.sheet(1, one[1]);
                for (int i = 0; i < one[1]; i++) {
                    x.entry(i, what == 2 ? 1 : 100 + i);
                }
                int both = Math.min(one[0], one[1]);
                Due.is("5: " + one[1] + " on " + one[0] + " rests", both, x.lay(what));
                Due.is("5: there is no sheet then", -1, x.count(6));
                Due.is("5: sealed", 0, x.seal());
                for (int r = 0; r < one[0]; r++) {
                    long was = what == 1 ? 0 : 1;
                    long due = what == 2 ? 1 : r < both ? 100 + r : was;
                    Due.is("5: told(" + r + ", " + what + ")", due, x.told(r, what));
                }
            }
        }
        StepBench x = new StepBench();
        x.draft(2);
        Bench.lay(x, 0, 8, 9);
        Bench.lay(x, 1, -8, -9);
        Bench.lay(x, 2, 2, 1);
        Bench.lay(x, 0, 4);
        x.sheet(3, 2);
        x.lay(1);
        x.seal();
        long[][] due = {{4, -8, 2}, {9, -9, 1}};
        for (int r = 0; r < 2; r++) {
            for (int what = 0; what < 3; what++) {
                Due.is("5: what is not laid over stays, told(" + r + ", " + what + ")", due[r][what], x.told(r, what));
            }
        }
    }

    /** "NONE: no SHEET, no DRAFT, another what (it stays)." */
    private static void layIsRefused() {
        StepBench x = new StepBench();
        x.draft(2);
        Due.is("5: no sheet", -1, x.lay(0));
        x.sheet(0, 2);
        x.entry(0, 6);
        for (int what : new int[] {-1, 3, 4, 256, Integer.MIN_VALUE, Integer.MAX_VALUE}) {
            Due.is("5: lay(" + what + ")", -1, x.lay(what));
            Due.is("5: the sheet stays", 2, x.count(6));
        }
        Due.is("5: with its entries", 2, x.lay(1));
        Due.is("5: no sheet any more", -1, x.lay(1));
        Due.is("5: sealed", 0, x.seal());
        Due.is("5: its entry", 6, x.told(0, 1));
        x.sheet(3, 0);
        Due.is("5: no draft any more", -1, x.lay(0));
        Due.is("5: a missing sheet stays too", 0, x.count(6));
        x.draft(1);
        Due.is("5: nor by a draft that is refused", -1, x.lay(0));
        x.draft(2);
        Due.is("5: but by one that is not", 0, x.lay(0));
    }

    // ---- 6: seal

    private static int sealed(int m, int at, long a, long b, long d) {
        long[][] shares = new long[m][];
        for (int r = 0; r < m; r++) {
            shares[r] = r == at ? Bench.share(a, b, d) : Bench.share(1, 0, 1);
        }
        return Bench.setRule(new StepBench(), shares);
    }

    /** "a and b -1000 .. 1000, d 1 .. 1000." */
    private static void sealAsTold() {
        long[][] good = {
            {1000, 0, 1}, {-1000, 0, 1}, {0, 0, 1}, {1, 1000, 1}, {1, -1000, 1}, {0, 0, 1000}, {0, 1000, 1000},
            {1000, -1000, 1000}, {-1000, 1000, 1000}, {1000, 1000, 1}, {0, -999, 999}
        };
        long[][] bad = {
            {1001, 0, 1}, {-1001, 0, 1}, {1, 1001, 1}, {1, -1001, 1}, {0, 0, 0}, {1, 0, 0}, {0, 0, -1}, {1, 0, -1},
            {0, 0, 1001}, {0, 0, -1000}, {1001, 1001, 1001}, {Long.MAX_VALUE, 0, 1}, {0, Long.MIN_VALUE, 1},
            {0, 0, Long.MAX_VALUE}, {0, 0, Long.MIN_VALUE}, {1L << 32, 0, 1}, {0, 1L << 32, 1}, {0, 0, 1L << 32},
            {(1L << 32) + 1, 0, 1}, {1, (1L << 32) + 1, 1}, {1, 0, (1L << 32) + 1}, {2002, 0, 1001}
        };
        for (int at : new int[] {0, 1, 63}) {
            for (long[] one : good) {
                Due.is("6: " + one[0] + ", " + one[1] + ", " + one[2], 0, sealed(64, at, one[0], one[1], one[2]));
            }
            for (long[] one : bad) {
                Due.is("6: " + one[0] + ", " + one[1] + ", " + one[2], -1 - at,
                    sealed(64, at, one[0], one[1], one[2]));
            }
        }
    }

    /** "Else -1 less the first REST whose a, b or d is not as told, or which is not WHOLE." */
    private static void sealFirstRest() {
        for (int at = 0; at < 64; at++) {
            long[][] shares = new long[64][];
            for (int r = 0; r < 64; r++) {
                // From this rest on all are wrong, some by their parts and some by not being whole.
                shares[r] = r < at ? Bench.share(1, 0, 1) : r % 2 == 0 ? Bench.share(1, 1001, 1) : Bench.share(1, 0, 3);
            }
            StepBench x = new StepBench();
            Due.is("6: the first wrong one is " + at, -1 - at, Bench.setRule(x, shares));
            Due.is("6: no rule", 0, x.count(0));
        }
    }

    /** "It is WHOLE if this is whole for all such x." */
    private static void sealWhole() {
        long[][] good = {
            {2, 0, 1, 0, 2}, {2, 1, 3, 1, 2}, {2, 1, 3, 1, 1}, {4, 2, 2, 4, 8}, {4, 2, 1, -2, 4}, {3, 2, 1, 1, 3},
            {64, 63, 1, 1, 64}, {64, 63, -1, -1, 64}, {6, 5, 10, 10, 60}, {2, 1, 500, 500, 1000}, {5, 3, 0, -12, 4}
        };
        long[][] bad = {
            // The first x is whole and the next one is not; the next one would be, the first one is not.
            {2, 0, 1, 0, 4}, {2, 1, 3, 1, 4}, {4, 2, 2, 4, 16}, {3, 2, 1, 1, 9}, {64, 63, 1, 1, 128},
            {2, 1, 500, 500, 999}, {2, 0, 1, 1, 2}, {2, 1, 1, 0, 2}, {4, 2, 1, 0, 4}, {2, 0, 3, 2, 4}, {64, 63, 1, 0, 64}, {5, 3, 0, -11, 4},
            {5, 3, 1, 0, 3}
        };
        for (long[] one : good) {
            Due.is("6: whole, " + one[2] + " x + " + one[3] + " by " + one[4], 0,
                sealed((int) one[0], (int) one[1], one[2], one[3], one[4]));
        }
        for (long[] one : bad) {
            Due.is("6: not whole, " + one[2] + " x + " + one[3] + " by " + one[4], -1 - one[1],
                sealed((int) one[0], (int) one[1], one[2], one[3], one[4]));
        }
    }

    /** "THE RULE is the DRAFT: 0 (there is none then) .. IllegalStateException: no DRAFT." */
    private static void sealTakesTheDraft() {
        StepBench x = new StepBench();
        Due.throwsA("6: no draft", STATE, () -> x.seal());
        x.draft(2);
        Due.is("6: sealed", 0, x.seal());
        Due.throwsA("6: no draft any more", STATE, () -> x.seal());
        x.sheet(1, 2);
        Due.is("5: nor to lay on", -1, x.lay(1));
        x.draft(65);
        Due.throwsA("6: nor by one that was refused", STATE, () -> x.seal());
        x.draft(3);
        Bench.lay(x, 2, 0);
        Due.is("6: a draft that does not fit", -1, x.seal());
        Due.is("6: stays and does not fit", -1, x.seal());
        Due.is("6: the rule before stays", 2, x.count(1));
    }

    // ---- 7: list, 8: fraction

    /** "THE RULE is a LIST without fractions." */
    private static void listWithoutFractions() {
        StepBench x = new StepBench();
        for (int i = 0; i < 3; i++) {
            Due.is("7: list()", true, x.list());
            Due.is("7: without fractions", 0, x.count(2));
            Due.throwsA("7: none to tell of", GONE, () -> x.told(0, 0));
            Due.throwsA("7: none to step by", GONE, () -> x.step(1));
            Due.is("8: the first one", 1, x.fraction(2, 1));
        }
        StepBench rule = Bench.threeQuarters();
        Due.is("7: instead of a rule", true, rule.list());
        Due.is("7: no measure any more", 0, rule.count(1));
        Due.throwsA("7: nothing told of the rule", GONE, () -> rule.told(0, 0));
        Due.throwsA("7: nothing stepped by the rule", GONE, () -> rule.step(2));
    }

    /** "p / q (both 1 .. 10^9)"; "NONE: THE RULE is no LIST, p, q not as told." */
    private static void fractionsAsTold() {
        long most = 1000000000;
        StepBench x = new StepBench();
        Due.is("8: no rule", -1, x.fraction(1, 1));
        x.list();
        long[][] bad = {
            {0, 1}, {1, 0}, {0, 0}, {-1, 1}, {1, -1}, {-1, -1}, {most + 1, 1}, {1, most + 1}, {most + 1, most + 1},
            {2 * most, 2}, {2, 2 * most}, {(1L << 32) + 1, 1}, {1, (1L << 32) + 1}, {Long.MIN_VALUE, 1},
            {1, Long.MIN_VALUE}, {Long.MAX_VALUE, 1}, {1, Long.MAX_VALUE}, {-most, most}
        };
        for (long[] one : bad) {
            Due.is("8: " + one[0] + " / " + one[1], -1, x.fraction(one[0], one[1]));
            Due.is("8: none came", 0, x.count(2));
        }
        Due.is("8: 1 / 1", 1, x.fraction(1, 1));
        Due.is("8: 10^9 / 1", 2, x.fraction(most, 1));
        Due.is("8: 1 / 10^9", 3, x.fraction(1, most));
        Due.is("8: 10^9 / 10^9", 4, x.fraction(most, most));
        Due.is("8: told of the second", most, x.told(1, 0));
        Due.is("8: told of the third", most, x.told(2, 1));
        x.draft(2);
        x.seal();
        Due.is("8: of a rule", -1, x.fraction(1, 1));
        Due.is("8: the rule stays", 1, x.count(0));
    }

    /** "At most 40 fractions"; "how many .. NONE: .. 40." */
    private static void fortyFractions() {
        StepBench x = new StepBench();
        x.list();
        for (int i = 1; i <= 40; i++) {
            Due.is("8: fraction " + i, i, x.fraction(2 * i + 1, 2 * i));
        }
        for (int i = 0; i < 3; i++) {
            Due.is("8: the 41st", -1, x.fraction(1, 1));
            Due.is("8: it did not come", 40, x.count(2));
        }
        for (int i = 1; i <= 40; i++) {
            Due.is("8: p of " + i, 2 * i + 1, x.told(i - 1, 0));
            Due.is("8: q of " + i, 2 * i, x.told(i - 1, 1));
        }
        Due.throwsA("10: no 41st", GONE, () -> x.told(40, 0));
    }

    // ---- 9: count, 10: told

    /** "What 0: 0 no RULE, 1 a RULE, 2 a LIST .. NONE for another what." */
    private static void counts() {
        StepBench x = new StepBench();
        for (int what : new int[] {-1, -2, 7, 8, 256, Integer.MIN_VALUE, Integer.MAX_VALUE}) {
            Due.is("9: count(" + what + ")", -1, x.count(what));
        }
        Due.is("9: no rule", 0, x.count(0));
        x.list();
        Due.is("9: a list", 2, x.count(0));
        Due.is("9: of a list no measure", 0, x.count(1));
        Due.is("9: of a list without fractions", 0, x.count(2));
        x.fraction(1, 1);
        Due.is("9: of a list with one", 1, x.count(2));
        x.draft(64);
        Due.is("9: a draft is no rule", 2, x.count(0));
        Due.is("9: and has no measure to tell", 0, x.count(1));
        x.seal();
        Due.is("9: a rule", 1, x.count(0));
        Due.is("9: its measure", 64, x.count(1));
        Due.is("9: of a rule no fractions", 0, x.count(2));
        x.sheet(1, 0);
        Due.is("9: a sheet without entries", 0, x.count(6));
        x.sheet(3, 9);
        Due.is("9: 0 of a missing one", 0, x.count(6));
        x.draft(2);
        x.lay(0);
        Due.is("9: NONE without", -1, x.count(6));
    }

    private static void countsOfMost() {
        StepBench x = new StepBench();
        for (int i = 0; i < 41; i++) {
            x.rest(i);
        }
        for (int i = 0; i < 13; i++) {
            x.act(2, 0, 0, 0);
        }
        x.sheet(0, 64);
        Due.is("9: 40 of the word", 40, x.count(4));
        Due.is("9: 12 acts", 12, x.count(5));
        Due.is("9: 64 entries", 64, x.count(6));
        x.draft(2);
        x.seal();
        x.word(1, 40);
        Due.is("9: 40 of the row", 40, x.count(3));
        x.fixed();
        Due.is("9: none of the row", 0, x.count(3));
    }

    /** "Of THE RULE, for REST r, what 0: a, 1: b, 2: d (as they were told) .. none such." */
    private static void toldOfRule() {
        StepBench x = Bench.alike(64, 500, 500, 500);
        x.draft(2);
        for (int r : new int[] {0, 1, 63}) {
            for (int what = 0; what < 3; what++) {
                Due.is("10: as they were told", 500, x.told(r, what));
            }
            for (int what : new int[] {-1, 3, 256, Integer.MIN_VALUE, Integer.MAX_VALUE}) {
                Due.throwsA("10: told(" + r + ", " + what + ")", GONE, () -> x.told(r, what));
            }
        }
        for (int r : new int[] {-1, 64, 65, 256, Integer.MIN_VALUE, Integer.MAX_VALUE}) {
            for (int what = 0; what < 3; what++) {
                int one = what;
                Due.throwsA("10: told(" + r + ", " + what + ")", GONE, () -> x.told(r, one));
            }
        }
        StepBench behind = Bench.withList(1, 2, 3, 4, 5, 6, 7, 8);
        behind.draft(2);
        behind.seal();
        Due.throwsA("10: what a list had before", GONE, () -> behind.told(2, 0));
        Due.throwsA("10: nor its q", GONE, () -> behind.told(3, 1));
        StepBench two = Bench.threeHalves();
        Due.is("10: the last of two", 3, two.told(1, 0));
        Due.throwsA("10: behind the last of two", GONE, () -> two.told(2, 0));
        StepBench less = Bench.alike(64, 1, 0, 1);
        less.draft(2);
        less.seal();
        Due.throwsA("10: what a larger one had before", GONE, () -> less.told(2, 0));
    }

    /** "Of THE LIST of fraction r, 0: p, 1: q." */
    private static void toldOfList() {
        StepBench x = Bench.withList(3, 2, 5, 7);
        Due.is("10: p of the last", 5, x.told(1, 0));
        Due.is("10: q of the last", 7, x.told(1, 1));
        for (int what : new int[] {-1, 2, 3, Integer.MIN_VALUE, Integer.MAX_VALUE}) {
            Due.throwsA("10: of a list, told(1, " + what + ")", GONE, () -> x.told(1, what));
        }
        for (int r : new int[] {-1, 2, 40, Integer.MIN_VALUE, Integer.MAX_VALUE}) {
            Due.throwsA("10: of a list, told(" + r + ", 0)", GONE, () -> x.told(r, 0));
            Due.throwsA("10: of a list, told(" + r + ", 1)", GONE, () -> x.told(r, 1));
        }
        x.list();
        x.fraction(11, 13);
        Due.throwsA("10: what a longer one had before", GONE, () -> x.told(1, 0));
        Due.throwsA("10: no rule", GONE, () -> new StepBench().told(0, 1));
    }
}
