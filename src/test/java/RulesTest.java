/** Promises 1 to 10: a new object, drafts, sheets, rules, lists, and what is told of them. */
public final class RulesTest {
    private static final String GONE = "NoSuchElementException";

    public static void main(String[] args) {
        newObject();
        draft();
        sheet();
        entry();
        lay();
        seal();
        sealRefuses();
        sealWantsWhole();
        list();
        fraction();
        count();
        told();
        Due.close("RulesTest");
    }

    private static void newObject() {
        StepBench x = new StepBench();
        long[] due = {0, 0, 0, 0, 0, 0, -1};
        for (int what = 0; what < due.length; what++) {
            Due.is("1: new, count(" + what + ")", due[what], x.count(what));
        }
        Due.throwsA("1: new, seal()", "IllegalStateException", () -> x.seal());
        Due.throwsA("1: new, row(0)", GONE, () -> x.row(0));
        Due.throwsA("1: new, told(0, 0)", GONE, () -> x.told(0, 0));
        Due.is("1: new, lay(0)", -1, x.lay(0));
        Due.is("1: new, entry(0, 0)", false, x.entry(0, 0));
        Due.is("1: new, scrap()", 0, x.scrap());
        Due.is("1: new, clear()", 0, x.clear());
    }

    private static void draft() {
        for (int m : new int[] {2, 3, 64}) {
            StepBench x = new StepBench();
            Due.is("2: draft(" + m + ")", true, x.draft(m));
            Due.is("2: seal() of a new draft", 0, x.seal());
            Due.is("2: its measure", m, x.count(1));
            for (int r = 0; r < m; r++) {
                Due.is("2: a of rest " + r, 1, x.told(r, 0));
                Due.is("2: b of rest " + r, 0, x.told(r, 1));
                Due.is("2: d of rest " + r, 1, x.told(r, 2));
            }
            Due.is("2: it steps nowhere", -7, x.step(-7));
        }
        StepBench x = new StepBench();
        for (int m : new int[] {1, 65, 0, -2, Integer.MAX_VALUE, Integer.MIN_VALUE}) {
            Due.is("2: draft(" + m + ")", false, x.draft(m));
            Due.throwsA("2: seal() behind it", "IllegalStateException", () -> x.seal());
        }
        x.draft(5);
        Bench.lay(x, 0, 7);
        Due.is("2: a draft that stays", false, x.draft(1));
        x.seal();
        Due.is("2: its a", 7, x.told(0, 0));
        x.draft(5);
        Bench.lay(x, 0, 8, 9);
        x.draft(3);
        x.seal();
        Due.is("2: a new draft is as new", 1, x.told(1, 0));
        Due.is("2: and of its own measure", 3, x.count(1));
        x.draft(3);
        Bench.lay(x, 1, 5, 5, 5);
        Bench.lay(x, 2, 5, 5, 5);
        x.draft(3);
        x.seal();
        Due.is("2: as new, b", 0, x.told(1, 1));
        Due.is("2: as new, d", 1, x.told(1, 2));
    }

    private static void sheet() {
        StepBench x = new StepBench();
        for (int kind = 0; kind <= 2; kind++) {
            Due.is("3: sheet(kind, 0)", true, x.sheet(kind, 0));
            Due.is("3: its entries", 0, x.count(6));
            Due.is("3: sheet(kind, 64)", true, x.sheet(kind, 64));
            Due.is("3: its entries", 64, x.count(6));
            Due.is("3: sheet(kind, 65)", false, x.sheet(kind, 65));
            Due.is("3: sheet(kind, -1)", false, x.sheet(kind, -1));
            Due.is("3: the one before stays", 64, x.count(6));
        }
        for (int n : new int[] {0, -1, 65, Integer.MAX_VALUE}) {
            x.sheet(0, 7);
            Due.is("3: sheet(3, " + n + ")", true, x.sheet(3, n));
            Due.is("3: a missing one has no entries", 0, x.count(6));
        }
        for (int kind : new int[] {-1, 4, 256, Integer.MIN_VALUE}) {
            x.sheet(1, 5);
            Due.is("3: sheet(" + kind + ", 1)", false, x.sheet(kind, 1));
            Due.is("3: the one before stays", 5, x.count(6));
        }
        x.draft(3);
        x.sheet(2, 3);
        x.entry(0, 9);
        x.entry(1, 9);
        x.sheet(2, 3);
        x.entry(2, 4);
        x.lay(1);
        x.seal();
        Due.is("3: a new sheet is all 0", 0, x.told(0, 1));
        Due.is("3: but what is written", 4, x.told(2, 1));
    }

    private static void entry() {
        long[][] cases = {
            {0, 127, 127}, {0, 128, -128}, {0, 255, -1}, {0, 256, 0}, {0, -129, 127}, {0, 1000, -24},
            {1, 1000, 1000}, {1, 2147483648L, -2147483648L}, {1, 4294967296L + 900, 900}, {1, -4294967296L - 7, -7},
            {2, 1000, 1000}, {2, -1000, -1000}
        };
        for (long[] one : cases) {
            StepBench x = new StepBench();
            x.draft(2);
            x.sheet((int) one[0], 2);
            Due.is("4: entry(1, " + one[1] + ")", true, x.entry(1, one[1]));
            x.lay(1);
            boolean fits = Math.abs(one[2]) <= 1000;
            Due.is("4: seal() with b " + one[2], fits ? 0 : -2, x.seal());
            if (fits) {
                Due.is("4: of kind " + one[0] + " " + one[1] + " is", one[2], x.told(1, 1));
            }
        }
        StepBench x = new StepBench();
        x.sheet(2, 3);
        Due.is("4: entry(3, 1) of 3", false, x.entry(3, 1));
        Due.is("4: entry(-1, 1)", false, x.entry(-1, 1));
        Due.is("4: entry(2, 1)", true, x.entry(2, 1));
        x.sheet(0, 0);
        Due.is("4: entry(0, 1) of none", false, x.entry(0, 1));
        x.sheet(3, 5);
        Due.is("4: entry(0, 1) of a missing one", false, x.entry(0, 1));
        x.draft(2);
        x.lay(0);
        Due.is("4: entry(0, 1) without a sheet", false, x.entry(0, 1));
        longsStayLong();
    }

    private static void longsStayLong() {
        StepBench x = new StepBench();
        x.draft(2);
        x.sheet(2, 1);
        x.entry(0, 4294967296L);
        x.lay(1);
        Due.is("4: a long is not cut to an int", -1, x.seal());
        Bench.lay(x, 1, Long.MIN_VALUE);
        Due.is("4: nor is the least one", -1, x.seal());
    }

    private static void lay() {
        StepBench x = new StepBench();
        x.sheet(2, 3);
        Due.is("5: without a draft", -1, x.lay(0));
        Due.is("5: the sheet stays", 3, x.count(6));
        x.draft(4);
        for (int what : new int[] {-1, 3, 4}) {
            Due.is("5: lay(" + what + ")", -1, x.lay(what));
            Due.is("5: the sheet stays", 3, x.count(6));
        }
        x.entry(0, 5);
        x.entry(1, 6);
        x.entry(2, 7);
        Due.is("5: three on four rests", 3, x.lay(0));
        Due.is("5: there is no sheet then", -1, x.count(6));
        Due.is("5: nor to lay again", -1, x.lay(0));
        Due.is("5: nor to write on", false, x.entry(0, 1));
        x.sheet(1, 6);
        x.entry(0, 10);
        x.entry(3, 13);
        x.entry(5, 99);
        Due.is("5: six on four rests", 4, x.lay(1));
        x.sheet(3, 0);
        Due.is("5: a missing one", 0, x.lay(2));
        Due.is("5: it is gone too", -1, x.count(6));
        x.seal();
        long[][] due = {{5, 10, 1}, {6, 0, 1}, {7, 0, 1}, {1, 13, 1}};
        for (int r = 0; r < 4; r++) {
            for (int what = 0; what < 3; what++) {
                Due.is("5: told(" + r + ", " + what + ")", due[r][what], x.told(r, what));
            }
        }
        x.draft(2);
        x.sheet(0, 0);
        Due.is("5: a sheet without entries", 0, x.lay(0));
        x.sheet(0, 1);
        x.seal();
        Due.is("5: the draft is gone", -1, x.lay(0));
        Due.is("5: the sheet is not", 1, x.count(6));
    }

    private static void seal() {
        StepBench x = new StepBench();
        Due.is("6: 1000, -1000, 1000", 0,
            Bench.setRule(x, Bench.share(1000, -1000, 1000), Bench.share(-1000, 1000, 1000)));
        Due.is("6: it is the rule", 1, x.count(0));
        Due.throwsA("6: there is no draft then", "IllegalStateException", () -> x.seal());
        Due.is("6: the rule stays", 1, x.count(0));
        x.list();
        x.draft(3);
        Due.is("6: a draft is no rule yet", 2, x.count(0));
        Due.is("6: then it is", 0, x.seal());
        Due.is("6: instead of the list", 1, x.count(0));
        Due.is("6: of this measure", 3, x.count(1));
        StepBench y = Bench.threeHalves();
        y.draft(3);
        Bench.lay(y, 2, 1, 0);
        Due.is("6: refused", -2, y.seal());
        Due.is("6: the rule stays", 2, y.count(1));
        Bench.lay(y, 2, 1, 1);
        Due.is("6: the draft too, and is mended", 0, y.seal());
        Due.is("6: its measure", 3, y.count(1));
    }

    private static void sealRefuses() {
        long[][] wrong = {
            {1001, 0, 1}, {-1001, 0, 1}, {1, 1001, 1}, {1, -1001, 1}, {1, 0, 0}, {0, 0, -1}, {0, 0, 1001},
            {Long.MIN_VALUE, 0, 1}, {Long.MAX_VALUE, 0, 1}, {0, Long.MIN_VALUE, 1}, {0, 0, Long.MIN_VALUE},
            {0, 0, Long.MAX_VALUE}, {1L << 32, 0, 1}, {1000000, 0, 1001}
        };
        for (long[] one : wrong) {
            for (int r = 0; r < 3; r++) {
                long[][] shares = {Bench.share(2, 1, 1), Bench.share(0, 6, 3), Bench.share(-1, 0, 1)};
                shares[r] = one;
                StepBench x = new StepBench();
                Due.is("6: " + one[0] + ", " + one[1] + ", " + one[2] + " at rest " + r, -1 - r,
                    Bench.setRule(x, shares));
                Due.is("6: no rule then", 0, x.count(0));
            }
        }
        StepBench x = new StepBench();
        long[][] twoWrong = {Bench.share(1, 0, 1), Bench.share(1, 0, 5), Bench.share(2000, 0, 1)};
        Due.is("6: the first of two that are wrong", -2, Bench.setRule(x, twoWrong));
        long[][] last = new long[64][];
        for (int r = 0; r < 64; r++) {
            last[r] = Bench.share(1, r == 63 ? 0 : -r, 64);
        }
        Due.is("6: the last of 64", -64, Bench.setRule(x, last));
    }

    private static void sealWantsWhole() {
        StepBench x = new StepBench();
        Due.is("6: 3 x + 1 is whole by 4 for the first odd one alone", -2,
            Bench.setRule(x, Bench.share(1, 0, 2), Bench.share(3, 1, 4)));
        Due.is("6: x by 2 of odd ones", -2, Bench.setRule(x, Bench.share(1, 0, 2), Bench.share(1, 0, 2)));
        Due.is("6: negative ones, too", 0, Bench.setRule(x, Bench.share(-3, 0, 2), Bench.share(-3, 1, 2)));
        Due.is("6: b alone not whole", -1, Bench.setRule(x, Bench.share(0, 3, 2), Bench.share(0, 2, 2)));
        Due.is("6: a as large as d", 0, Bench.setRule(x, Bench.share(5, 10, 5), Bench.share(7, -7, 7)));
    }

    private static void list() {
        StepBench x = Bench.threeHalves();
        Due.is("7: list()", true, x.list());
        Due.is("7: it is the rule", 2, x.count(0));
        Due.is("7: without fractions", 0, x.count(2));
        x.fraction(3, 2);
        Due.is("7: list() again", true, x.list());
        Due.is("7: without fractions again", 0, x.count(2));
        x.draft(2);
        x.list();
        Due.is("7: a draft stays", 0, x.seal());
    }

    private static void fraction() {
        StepBench x = new StepBench();
        Due.is("8: without a list", -1, x.fraction(1, 2));
        Due.is("8: of a rule", -1, Bench.threeHalves().fraction(1, 2));
        x.list();
        long[][] wrong = {
            {0, 1}, {1, 0}, {-1, 1}, {1, -1}, {1000000001, 1}, {1, 1000000001}, {2000000000, 2000000000},
            {Long.MIN_VALUE, 1}, {1, Long.MAX_VALUE}, {4294967297L, 1}
        };
        for (long[] one : wrong) {
            Due.is("8: " + one[0] + " / " + one[1], -1, x.fraction(one[0], one[1]));
        }
        Due.is("8: none came", 0, x.count(2));
        Due.is("8: the greatest", 1, x.fraction(1000000000, 1000000000));
        Due.is("8: in lowest terms", 1, x.told(0, 0));
        Due.is("8: in lowest terms", 1, x.told(0, 1));
        Due.is("8: 999999999 / 1000000000", 2, x.fraction(999999999, 1000000000));
        Due.is("8: is so already", 999999999, x.told(1, 0));
        Due.is("8: 360 / 84", 3, x.fraction(360, 84));
        Due.is("8: is 30", 30, x.told(2, 0));
        Due.is("8: by 7", 7, x.told(2, 1));
        for (int i = 4; i <= 40; i++) {
            Due.is("8: fraction " + i, i, x.fraction(i, 1));
        }
        Due.is("8: the 41st", -1, x.fraction(1, 2));
        Due.is("8: stays away", 40, x.count(2));
        Due.is("8: the 40th", 40, x.told(39, 0));
        x.list();
        Due.is("8: of a new list", 1, x.fraction(1, 2));
    }

    private static void count() {
        StepBench x = Bench.threeQuarters();
        Due.is("9: a rule", 1, x.count(0));
        Due.is("9: its measure", 4, x.count(1));
        Due.is("9: its fractions", 0, x.count(2));
        x.fixed();
        Due.is("9: numbers of the row", 3, x.count(3));
        x.rest(5);
        x.rest(60);
        Due.is("9: rests of the word", 2, x.count(4));
        x.act(2, 0, 0, 0);
        Due.is("9: acts", 1, x.count(5));
        x.sheet(0, 9);
        Due.is("9: entries", 9, x.count(6));
        for (int what : new int[] {-1, 7, Integer.MAX_VALUE, Integer.MIN_VALUE}) {
            Due.is("9: count(" + what + ")", -1, x.count(what));
        }
        x.list();
        x.fraction(1, 3);
        x.fraction(1, 2);
        Due.is("9: a list", 2, x.count(0));
        Due.is("9: its measure", 0, x.count(1));
        Due.is("9: its fractions", 2, x.count(2));
        x.draft(2);
        x.seal();
        Due.is("9: a rule again", 0, x.count(2));
    }

    private static void told() {
        StepBench x = Bench.withRule(Bench.share(6, 4, 2), Bench.share(-10, 20, 10), Bench.share(0, 0, 1000));
        long[][] due = {{6, 4, 2}, {-10, 20, 10}, {0, 0, 1000}};
        for (int r = 0; r < 3; r++) {
            for (int what = 0; what < 3; what++) {
                Due.is("10: told(" + r + ", " + what + ")", due[r][what], x.told(r, what));
            }
        }
        int[][] none = {{3, 0}, {-1, 0}, {0, 3}, {0, -1}, {Integer.MAX_VALUE, 1}, {1, Integer.MIN_VALUE}};
        for (int[] one : none) {
            Due.throwsA("10: told(" + one[0] + ", " + one[1] + ")", GONE, () -> x.told(one[0], one[1]));
        }
        x.draft(64);
        Due.throwsA("10: a draft is not told of", GONE, () -> x.told(5, 0));
        StepBench y = Bench.withList(9, 6, 1, 5);
        Due.is("10: p of the first", 3, y.told(0, 0));
        Due.is("10: q of the first", 2, y.told(0, 1));
        Due.is("10: p of the second", 1, y.told(1, 0));
        Due.is("10: q of the second", 5, y.told(1, 1));
        for (int[] one : new int[][] {{2, 0}, {-1, 1}, {0, 2}, {0, -1}}) {
            Due.throwsA("10: of a list, told(" + one[0] + ", " + one[1] + ")", GONE, () -> y.told(one[0], one[1]));
        }
        y.list();
        Due.throwsA("10: of an empty list", GONE, () -> y.told(0, 0));
    }
}
