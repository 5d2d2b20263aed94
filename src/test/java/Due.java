/** Counts what the tests of one class ask, prints what is not as due, and ends with 1 if anything was. */
final class Due {
    /** A call that answers a number, or throws. */
    interface Call {
        long answer();
    }

    private static int asked = 0;
    private static int wrong = 0;

    private Due() {
    }

    static void is(String call, long want, long got) {
        text(call, Long.toString(want), Long.toString(got));
    }

    static void is(String call, boolean want, boolean got) {
        text(call, Boolean.toString(want), Boolean.toString(got));
    }

    static void text(String call, String want, String got) {
        asked++;
        if (!want.equals(got)) {
            wrong++;
            if (wrong <= 40) {
                System.out.println(call + " answered " + got + ", due is " + want);
            }
        }
    }

    /** What a call answers, or the name of what it throws, as the issues write it. */
    static String outcome(Call call) {
        try {
            return Long.toString(call.answer());
        } catch (RuntimeException e) {
            return "throws." + e.getClass().getSimpleName();
        }
    }

    static void throwsA(String call, String exception, Call body) {
        text(call, "throws." + exception, outcome(body));
    }

    /** The ROW of x is just these numbers. */
    static void row(String call, StepBench x, long... want) {
        StringBuilder wanted = new StringBuilder();
        for (long one : want) {
            wanted.append(one).append(' ');
        }
        text(call + ", the row", wanted.toString(), rowOf(x));
        throwsA(call + ", behind the row", "NoSuchElementException", () -> x.row(want.length));
    }

    static String rowOf(StepBench x) {
        StringBuilder row = new StringBuilder();
        for (int i = 0; i < x.count(3); i++) {
            int at = i;
            row.append(outcome(() -> x.row(at))).append(' ');
        }
        return row.toString();
    }

    static void close(String name) {
        System.out.println(name + ": " + asked + " asked, " + wrong + " wrong");
        if (asked == 0 || wrong > 0) {
            System.exit(1);
        }
    }
}
