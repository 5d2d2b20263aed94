/** Benches with rules that the tests use. */
final class Bench {
    private Bench() {
    }

    /** Lays one value after another on the draft's a, b or d. */
    static void lay(StepBench x, int what, long... values) {
        x.sheet(2, values.length);
        for (int i = 0; i < values.length; i++) {
            x.entry(i, values[i]);
        }
        x.lay(what);
    }

    /** A bench whose rule has for each rest the a, b, d of one of these rows. */
    static StepBench withRule(long[]... shares) {
        StepBench x = new StepBench();
        setRule(x, shares);
        return x;
    }

    static int setRule(StepBench x, long[]... shares) {
        x.draft(shares.length);
        for (int what = 0; what < 3; what++) {
            long[] column = new long[shares.length];
            for (int r = 0; r < shares.length; r++) {
                column[r] = shares[r][what];
            }
            lay(x, what, column);
        }
        return x.seal();
    }

    static long[] share(long a, long b, long d) {
        return new long[] {a, b, d};
    }

    /** Of m rests each one the same share. */
    static StepBench alike(int m, long a, long b, long d) {
        long[][] shares = new long[m][];
        for (int r = 0; r < m; r++) {
            shares[r] = share(a, b, d);
        }
        return withRule(shares);
    }

    /** x / 2, and (3 x + 1) / 2 of odd numbers. */
    static StepBench threeHalves() {
        return withRule(share(1, 0, 2), share(3, 1, 2));
    }

    /** The rule that can be gone back: 3 x / 2, (3 x + 1) / 4, 3 x / 2, (3 x - 1) / 4. */
    static StepBench threeQuarters() {
        return withRule(share(3, 0, 2), share(3, 1, 4), share(3, 0, 2), share(3, -1, 4));
    }

    static StepBench withList(long... fractions) {
        StepBench x = new StepBench();
        x.list();
        for (int i = 0; i + 1 < fractions.length; i += 2) {
            x.fraction(fractions[i], fractions[i + 1]);
        }
        return x;
    }

    static void tellWord(StepBench x, int... rests) {
        x.clear();
        for (int r : rests) {
            x.rest(r);
        }
    }
}
