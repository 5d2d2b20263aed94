/** What a bench holds, part by part, looked at through its own calls: the look uses it up. */
final class Parts {
    static final String RULE = "the rule";
    static final String DRAFT = "the draft";
    static final String SHEET = "the sheet";
    static final String ROW = "the row";
    static final String WORD = "the word";
    static final String ACTS = "the acts";
    static final String[] NAMES = {RULE, DRAFT, SHEET, ROW, WORD, ACTS};

    private final String[] held = new String[NAMES.length];

    /** The order matters: a draft is seen by sealing it, a sheet by laying it, so both come behind the rule. */
    Parts(StepBench x) {
        held[0] = x.count(0) + " " + x.count(1) + " " + x.count(2) + ": " + toldOf(x);
        held[3] = x.count(3) + ": " + Due.rowOf(x);
        int rests = x.count(4);
        held[5] = x.count(5) + ": ";
        boolean isSheet = x.count(6) >= 0;
        held[2] = x.count(6) + ": ";
        held[1] = Due.outcome(() -> x.seal());
        if (held[1].equals("0")) {
            held[1] += ": " + toldOf(x);
        }
        if (isSheet) {
            x.draft(64);
            int entries = x.lay(1);
            held[2] += x.seal() + ": ";
            for (int i = 0; i < entries; i++) {
                held[2] += x.told(i, 1) + " ";
            }
        }
        held[4] = rests + ": " + wordOf(x, rests);
        if (x.made() > 0) {
            held[5] += toldOf(x);
        }
    }

    String part(int i) {
        return held[i];
    }

    private static String toldOf(StepBench x) {
        StringBuilder told = new StringBuilder();
        int parts = x.count(0) == 1 ? 3 : 2;
        for (int r = 0; r < x.count(1) + x.count(2); r++) {
            for (int what = 0; what < parts; what++) {
                told.append(x.told(r, what)).append(' ');
            }
        }
        return told.toString();
    }

    /** By m x + r for each rest r the B of a word's shape is the word itself, its rests as digits. */
    private static String wordOf(StepBench x, int rests) {
        int m = rests > 16 ? 2 : 8;
        long[][] shares = new long[m][];
        for (int r = 0; r < m; r++) {
            shares[r] = Bench.share(m, r, 1);
        }
        Bench.setRule(x, shares);
        return Due.outcome(() -> x.shape()) + ": " + Due.rowOf(x);
    }
}
