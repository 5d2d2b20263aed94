/** Promises 31 to 37, sentence by sentence, where they name an edge. */
public final class EdgesOfMachinesTest {
    private static final String BEYOND = "ArithmeticException";
    private static final String ARGUMENT = "IllegalArgumentException";
    private static final String GONE = "NoSuchElementException";
    private static final int[] PRIMES = {
        11, 13, 17, 19, 23, 29, 31, 37, 41, 43, 47, 53, 59, 61, 67, 71, 73, 79, 83, 89, 97, 101, 103, 107
    };

    public static void main(String[] args) {
        actsAsTold();
        actsOfKindsThatTellThem();
        twelveActs();
        scrapTellsHowMany();
        goAsTold();
        goStops();
        goToOneThatIsNot();
        goWithinK();
        goOf100000();
        goAddsAndTakes();
        madeNone();
        madeOfEachKind();
        madeOfEachHeap();
        madeOfEachAct();
        madeStepsTwice();
        beginsAsTold();
        beginsBeyond();
        lawOfNoList();
        lawPassesOver();
        lawFirstOne();
        lawOfWeights();
        lawOfLargePrimes();
        rowNone();
        rowIsTheLast();
        Due.close("EdgesOfMachinesTest");
    }

    // ---- 31: act, 32: scrap

    /** "NONE: another kind, heap not 0 .. 3, i, j not 0 .. 11." */
    private static void actsAsTold() {
        int[] wrongKinds = {-1, 3, 4, 256, Integer.MIN_VALUE, Integer.MAX_VALUE};
        int[] wrongHeaps = {-1, 4, 5, 256, Integer.MIN_VALUE, Integer.MAX_VALUE};
        int[] wrongActs = {-1, 12, 13, 256, Integer.MIN_VALUE, Integer.MAX_VALUE};
        StepBench x = new StepBench();
        for (int wrong : wrongKinds) {
            Due.is("31: kind " + wrong, -1, x.act(wrong, 0, 0, 0));
        }
        for (int wrong : wrongHeaps) {
            Due.is("31: one more of heap " + wrong, -1, x.act(0, wrong, 0, 0));
            Due.is("31: one less of heap " + wrong, -1, x.act(1, wrong, 0, 0));
        }
        for (int wrong : wrongActs) {
            Due.is("31: one more, then " + wrong, -1, x.act(0, 0, wrong, 0));
            Due.is("31: one less, then " + wrong, -1, x.act(1, 0, wrong, 0));
            Due.is("31: one less, else " + wrong, -1, x.act(1, 0, 0, wrong));
        }
        Due.is("31: none came", 0, x.count(5));
        for (int kind = 0; kind < 2; kind++) {
            for (int heap = 0; heap < 4; heap++) {
                for (int to : new int[] {0, 1, 10, 11}) {
                    StepBench y = new StepBench();
                    Due.is("31: act(" + kind + ", " + heap + ", " + to + ", ..)", 0, y.act(kind, heap, to, 11 - to));
                    Due.is("31: the next is", 1, y.act(kind, heap, 11 - to, to));
                }
            }
        }
    }

    /** "(Of kinds that tell them)": one more tells no j, STOP nothing. */
    private static void actsOfKindsThatTellThem() {
        int n = 0;
        StepBench x = new StepBench();
        for (int any : new int[] {-1, 12, Integer.MIN_VALUE, Integer.MAX_VALUE}) {
            Due.is("31: one more does not tell j " + any, n++, x.act(0, 3, 11, any));
            Due.is("31: STOP tells nothing, " + any, n++, x.act(2, any, any, any));
        }
        Due.is("31: STOP, heap 4 alone", n++, x.act(2, 4, 0, 0));
        Due.is("31: STOP, i 12 alone", n++, x.act(2, 0, 12, 0));
        Due.is("31: STOP, j 12 alone", n++, x.act(2, 0, 0, 12));
        Due.is("31: all of them came", n, x.count(5));
    }

    /** "An ACT more: its number .. NONE: .. 12." */
    private static void twelveActs() {
        for (int kind = 0; kind < 3; kind++) {
            StepBench x = new StepBench();
            for (int i = 0; i < 12; i++) {
                Due.is("31: act " + i, i, x.act(kind, 0, i, i));
                Due.is("31: so many", i + 1, x.count(5));
            }
            for (int again = 0; again < 3; again++) {
                Due.is("31: the 13th", -1, x.act(again, 0, 0, 0));
                Due.is("31: it did not come", 12, x.count(5));
            }
            Due.is("32: there were", 12, x.scrap());
            Due.is("31: from 0 on again", 0, x.act(kind, 0, 0, 0));
        }
    }

    /** "There are no ACTS: how many there were." */
    private static void scrapTellsHowMany() {
        StepBench x = new StepBench();
        Due.is("32: none", 0, x.scrap());
        for (int n : new int[] {1, 2, 11, 12}) {
            for (int i = 0; i < n; i++) {
                x.act(2, 0, 0, 0);
            }
            Due.is("32: of " + n, n, x.scrap());
            Due.is("32: there are no acts", 0, x.count(5));
            Due.is("32: none again", 0, x.scrap());
            Due.is("33: none goes", -1, x.go(0, 0, 0, 0, 1));
            Due.is("34: none is made", -1, x.made());
        }
    }

    // ---- 33: go

    private static StepBench acts(int[]... acts) {
        StepBench x = new StepBench();
        for (int[] one : acts) {
            x.act(one[0], one[1], one[2], one[3]);
        }
        return x;
    }

    private static int[] more(int heap, int then) {
        return new int[] {0, heap, then, 0};
    }

    private static int[] less(int heap, int then, int otherwise) {
        return new int[] {1, heap, then, otherwise};
    }

    private static int[] stop() {
        return new int[] {2, 0, 0, 0};
    }

    /** "With these heaps (0 .. 1000 each) .. at most k ACTS (0 .. 100000) .. NONE: no ACTS, others." */
    private static void goAsTold() {
        Due.is("33: no acts", -1, new StepBench().go(0, 0, 0, 0, 1));
        StepBench x = acts(stop());
        Due.is("33: all heaps full", 1, x.go(1000, 1000, 1000, 1000, 100000));
        Due.row("33: all heaps full", x, 1000, 1000, 1000, 1000, 1);
        for (int wrong : new int[] {-1, 1001, -1000, 65536, Integer.MIN_VALUE, Integer.MAX_VALUE}) {
            Due.is("33: heap 0 has " + wrong, -1, x.go(wrong, 0, 0, 0, 1));
            Due.is("33: heap 1 has " + wrong, -1, x.go(0, wrong, 0, 0, 1));
            Due.is("33: heap 2 has " + wrong, -1, x.go(0, 0, wrong, 0, 1));
            Due.is("33: heap 3 has " + wrong, -1, x.go(0, 0, 0, wrong, 1));
        }
        for (int wrong : new int[] {-1, 100001, Integer.MIN_VALUE, Integer.MAX_VALUE}) {
            Due.is("33: k " + wrong, -1, x.go(0, 0, 0, 0, wrong));
        }
        Due.row("33: the row before stays", x, 1000, 1000, 1000, 1000, 1);
        for (int k : new int[] {1, 2, 99999, 100000}) {
            Due.is("33: k " + k, 1, x.go(0, 1, 2, 3, k));
            Due.row("33: k " + k, x, 0, 1, 2, 3, 1);
        }
        Due.is("33: k 0", -2, x.go(4, 5, 6, 7, 0));
        Due.row("33: k 0", x, 4, 5, 6, 7, 0);
    }

    /** "1: it STOPPED"; "(STOP is one)". */
    private static void goStops() {
        StepBench x = acts(more(0, 2), stop(), more(0, 1));
        Due.is("33: two and STOP", 1, x.go(0, 0, 0, 0, 3));
        Due.row("33: two and STOP", x, 2, 0, 0, 0, 3);
        Due.is("33: at STOP, but it is not done", -2, x.go(0, 0, 0, 0, 2));
        Due.row("33: at STOP, but it is not done", x, 2, 0, 0, 0, 2);
        StepBench last = new StepBench();
        for (int i = 0; i < 11; i++) {
            last.act(0, i % 4, i + 1, 0);
        }
        last.act(2, 0, 0, 0);
        Due.is("33: act 11 stops", 1, last.go(0, 0, 0, 0, 12));
        Due.row("33: act 11 stops", last, 3, 3, 3, 2, 12);
        Due.is("33: not within 11", -2, last.go(0, 0, 0, 0, 11));
    }

    /** "0: it came to an ACT that is not there (not counted)." */
    private static void goToOneThatIsNot() {
        StepBench x = acts(more(0, 1));
        Due.is("33: act 1 of 1", 0, x.go(0, 0, 0, 0, 100));
        Due.row("33: act 1 of 1", x, 1, 0, 0, 0, 1);
        Due.is("33: within 1", 0, x.go(0, 0, 0, 0, 1));
        Due.is("33: within 0", -2, x.go(0, 0, 0, 0, 0));
        StepBench y = acts(less(3, 0, 11));
        Due.is("33: act 11 of 1, when the heap is empty", 0, y.go(0, 0, 0, 3, 100));
        Due.row("33: act 11 of 1, when the heap is empty", y, 0, 0, 0, 0, 4);
        Due.is("33: within 4", 0, y.go(0, 0, 0, 3, 4));
        Due.is("33: not within 3", -2, y.go(0, 0, 0, 3, 3));
        StepBench eleven = new StepBench();
        for (int i = 0; i < 11; i++) {
            eleven.act(0, 0, i + 1, 0);
        }
        Due.is("33: act 11 of 11", 0, eleven.go(0, 0, 0, 0, 100));
        Due.row("33: act 11 of 11", eleven, 11, 0, 0, 0, 11);
        eleven.act(0, 1, 0, 0);
        Due.is("33: it is there now", -2, eleven.go(0, 0, 0, 0, 12));
        Due.row("33: it is there now", eleven, 11, 1, 0, 0, 12);
    }

    /** "SPENT: neither, within k." */
    private static void goWithinK() {
        StepBench x = acts(less(0, 0, 1), stop());
        for (int heap : new int[] {0, 1, 2, 999, 1000}) {
            Due.is("33: just enough for " + heap, 1, x.go(heap, 0, 0, 0, heap + 2));
            Due.row("33: just enough for " + heap, x, 0, 0, 0, 0, heap + 2);
            Due.is("33: one too few for " + heap, -2, x.go(heap, 0, 0, 0, heap + 1));
            Due.row("33: one too few for " + heap, x, 0, 0, 0, 0, heap + 1);
        }
        StepBench ever = acts(less(1, 0, 0));
        Due.is("33: an empty heap counts, too", -2, ever.go(0, 5, 0, 0, 100));
        Due.row("33: an empty heap counts, too", ever, 0, 0, 0, 0, 100);
    }

    /** Two acts ahead, 52 times 480 there and back, and STOP: just 100000. */
    private static void goOf100000() {
        StepBench x = acts(more(3, 1), more(3, 2), less(0, 3, 7), less(1, 4, 5), more(2, 3), less(2, 6, 2),
            more(1, 5), stop());
        Due.is("33: 100000 with STOP", 1, x.go(52, 480, 0, 0, 100000));
        Due.row("33: 100000 with STOP", x, 0, 480, 0, 2, 100000);
        Due.is("33: one fewer", -2, x.go(52, 480, 0, 0, 99999));
        Due.row("33: one fewer", x, 0, 480, 0, 2, 99999);
        Due.is("33: one more to do", -2, acts(more(3, 1), more(3, 2), less(0, 3, 7), less(1, 4, 5), more(2, 3),
            less(2, 6, 2), more(1, 5), more(0, 8), stop()).go(52, 480, 0, 0, 100000));
        StepBench grow = acts(more(2, 0));
        Due.is("33: a heap may grow beyond 1000", -2, grow.go(0, 0, 1000, 0, 100000));
        Due.row("33: a heap may grow beyond 1000", grow, 0, 0, 101000, 0, 100000);
    }

    /** "If it is not empty, has one less, then ACT i, else ACT j"; "It begins at ACT 0." */
    private static void goAddsAndTakes() {
        for (int heap = 0; heap < 4; heap++) {
            StepBench x = acts(less(heap, 1, 2), stop(), more(heap, 1));
            long[] due = {1, 1, 1, 1, 2};
            due[heap] = 0;
            x.go(1, 1, 1, 1, 9);
            Due.row("33: heap " + heap + " has one less", x, due);
            int[] heaps = {1, 1, 1, 1};
            heaps[heap] = 0;
            due[heap] = 1;
            due[4] = 3;
            x.go(heaps[0], heaps[1], heaps[2], heaps[3], 9);
            Due.row("33: heap " + heap + " is empty, then has one more", x, due);
        }
    }

    // ---- 34: made

    /** "NONE: no ACTS." */
    private static void madeNone() {
        StepBench x = new StepBench();
        Due.is("34: no acts", -1, x.made());
        Due.is("34: no rule then", 0, x.count(0));
        StepBench rule = Bench.threeHalves();
        Due.is("34: no acts", -1, rule.made());
        Due.is("34: the rule stays", 1, rule.count(0));
        StepBench list = Bench.withList(3, 2);
        Due.is("34: no acts", -1, list.made());
        Due.is("34: the list stays", 3, list.told(0, 0));
        list.act(3, 0, 0, 0);
        Due.is("34: nor by one that was refused", -1, list.made());
        list.act(2, 0, 0, 0);
        Due.is("34: one STOP is two fractions", 2, list.made());
        Due.is("34: instead of the list", 11, list.told(0, 1));
    }

    private static void list(String call, StepBench x, long... due) {
        Due.is("34: " + call, due.length / 2, x.made());
        Due.is("34: " + call + ", of the list", due.length / 2, x.count(2));
        for (int i = 0; i < due.length; i++) {
            Due.is("34: " + call + ", fraction " + i / 2, due[i], x.told(i / 2, i % 2));
        }
    }

    /**
     * "Of an ACT 0: WAIT(i) h / GO(k), h the heap's prime; of an ACT 1: WAIT(i) / (GO(k) h), then WAIT(j) / GO(k);
     * of a STOP: 1 / GO(k). Then for each ACT k from 0 on GO(k) / WAIT(k)."
     */
    private static void madeOfEachKind() {
        list("one more", acts(more(1, 0)), 39, 11, 11, 13);
        list("one less", acts(less(1, 0, 2)), 13, 33, 29, 11, 11, 13);
        list("one less, else itself", acts(less(0, 2, 0)), 29, 22, 13, 11, 11, 13);
        list("STOP", acts(stop()), 1, 11, 11, 13);
        list("each of them", acts(less(2, 1, 2), more(3, 0), stop()),
            19, 55, 29, 11, 91, 17, 1, 23, 11, 13, 17, 19, 23, 29);
        list("the last first", acts(stop(), more(0, 0)), 1, 11, 26, 17, 11, 13, 17, 19);
        list("ACTS that are not there have primes", acts(less(3, 11, 10)), 107, 77, 101, 11, 11, 13);
    }

    /** "Of heap h the h-th of 2, 3, 5, 7." */
    private static void madeOfEachHeap() {
        int[] primes = {2, 3, 5, 7};
        for (int h = 0; h < 4; h++) {
            list("one more of heap " + h, acts(more(h, 1)), 19 * primes[h], 11, 11, 13);
            list("one less of heap " + h, acts(less(h, 1, 2)), 19, 11 * primes[h], 29, 11, 11, 13);
        }
    }

    /** "Of ACT k two: GO of k the 2k-th, WAIT of k the one behind it, of 11, 13, 17, 19, .. ." */
    private static void madeOfEachAct() {
        for (int to = 0; to < 12; to++) {
            list("on to " + to, acts(more(0, to)), 2 * PRIMES[2 * to + 1], 11, 11, 13);
            list("on to " + to + ", else " + (11 - to), acts(less(0, to, 11 - to)), PRIMES[2 * to + 1], 22,
                PRIMES[23 - 2 * to], 11, 11, 13);
        }
        StepBench x = new StepBench();
        long[] due = new long[2 * 24];
        long[] less = new long[2 * 36];
        StepBench y = new StepBench();
        for (int k = 0; k < 12; k++) {
            x.act(2, 0, 0, 0);
            y.act(1, 3, 11 - k, k);
            due[2 * k] = 1;
            due[2 * k + 1] = PRIMES[2 * k];
            less[4 * k] = PRIMES[23 - 2 * k];
            less[4 * k + 1] = 7 * PRIMES[2 * k];
            less[4 * k + 2] = PRIMES[2 * k + 1];
            less[4 * k + 3] = PRIMES[2 * k];
            for (int part = 0; part < 2; part++) {
                due[24 + 2 * k + part] = PRIMES[2 * k + part];
                less[48 + 2 * k + part] = PRIMES[2 * k + part];
            }
        }
        list("twelve STOPS", x, due);
        list("twelve times one less, the most there are", y, less);
    }

    /** "(So each ACT is two steps, STOP one.)" */
    private static void madeStepsTwice() {
        StepBench x = acts(less(0, 1, 2), more(1, 0), stop());
        x.go(4, 1, 2, 1, 100);
        Due.row("33: 4 go over", x, 0, 5, 2, 1, 10);
        x.made();
        long from = x.begins(4, 1, 2, 1);
        Due.is("35: 11 2^4 3 5^2 7", 11L * 16 * 3 * 25 * 7, from);
        Due.is("34: two steps each, STOP one", 243L * 25 * 7, x.run(from, 19));
        Due.is("34: one ahead of it STOP's own prime", 23L * 243 * 25 * 7, x.run(from, 18));
        Due.throwsA("34: then it ends", GONE, () -> x.run(from, 20));
        StepBench open = acts(more(0, 5));
        open.made();
        Due.is("34: to one that is not there", 53 * 2, open.step(11));
        Due.throwsA("34: it has no fractions", GONE, () -> open.step(106));
    }

    // ---- 35: begins

    /** "IllegalArgumentException: other heaps (asked first)." */
    private static void beginsAsTold() {
        StepBench x = new StepBench();
        for (int wrong : new int[] {-1, 1001, -1000, 65536, Integer.MIN_VALUE, Integer.MAX_VALUE}) {
            for (int large : new int[] {0, 1000}) {
                Due.throwsA("35: heap 0 has " + wrong, ARGUMENT, () -> x.begins(wrong, large, large, large));
                Due.throwsA("35: heap 1 has " + wrong, ARGUMENT, () -> x.begins(large, wrong, large, large));
                Due.throwsA("35: heap 2 has " + wrong, ARGUMENT, () -> x.begins(large, large, wrong, large));
                Due.throwsA("35: heap 3 has " + wrong, ARGUMENT, () -> x.begins(large, large, large, wrong));
            }
        }
        Due.is("35: empty heaps", 11, x.begins(0, 0, 0, 0));
        Due.is("35: 2", 22, x.begins(1, 0, 0, 0));
        Due.is("35: 3", 33, x.begins(0, 1, 0, 0));
        Due.is("35: 5", 55, x.begins(0, 0, 1, 0));
        Due.is("35: 7", 77, x.begins(0, 0, 0, 1));
        StepBench y = acts(stop(), stop());
        y.made();
        Due.is("35: GO(0) also with two acts", 11 * 210, y.begins(1, 1, 1, 1));
    }

    /** "ArithmeticException: it would be BEYOND." */
    private static void beginsBeyond() {
        StepBench x = new StepBench();
        Due.is("35: the greatest within, 11 3^8 7^12", 998939538583371L, x.begins(0, 8, 0, 12));
        Due.throwsA("35: the least beyond, 11 2^36 3^3 7^2", BEYOND, () -> x.begins(36, 3, 0, 2));
        Due.is("35: 11 2^46", 11L << 46, x.begins(46, 0, 0, 0));
        Due.is("35: 11 3^29", 754934151013713L, x.begins(0, 29, 0, 0));
        Due.is("35: 11 5^19", 209808349609375L, x.begins(0, 0, 19, 0));
        Due.is("35: 11 7^16", 365562236265611L, x.begins(0, 0, 0, 16));
        int[][] beyond = {
            {47, 0, 0, 0}, {0, 30, 0, 0}, {0, 0, 20, 0}, {0, 0, 0, 17}, {60, 0, 0, 0}, {61, 0, 0, 0}, {64, 0, 0, 0},
            {65, 0, 0, 0}, {1000, 0, 0, 0}, {0, 1000, 0, 0}, {0, 0, 1000, 0}, {0, 0, 0, 1000},
            {1000, 1000, 1000, 1000}, {46, 0, 0, 1}, {1, 29, 1, 0}, {64, 64, 64, 64}
        };
        for (int[] one : beyond) {
            Due.throwsA("35: begins(" + one[0] + ", " + one[1] + ", " + one[2] + ", " + one[3] + ")", BEYOND,
                () -> x.begins(one[0], one[1], one[2], one[3]));
        }
    }

    // ---- 36: law

    /** "SPENT: THE RULE is no LIST"; "NONE if there is none." */
    private static void lawOfNoList() {
        Due.is("36: no rule", -2, new StepBench().law(1, 1, 1, 1, 1));
        Due.is("36: a rule", -2, Bench.threeHalves().law(0, 0, 0, 0, 0));
        StepBench behind = Bench.withList(3, 2);
        behind.draft(2);
        Due.is("36: a list, and a draft beside it", 0, behind.law(1, 2, 0, 0, 0));
        behind.seal();
        Due.is("36: a rule behind a list", -2, behind.law(1, 2, 0, 0, 0));
        Due.is("36: no fractions", -1, Bench.withList().law(1, 2, 3, 4, 5));
        Due.is("36: nothing weighs anything", -1, Bench.withList(3, 2, 5, 7, 11, 13).law(0, 0, 0, 0, 0));
        Due.is("36: 1 / 1 changes nothing", -1, Bench.withList(1, 1).law(1, 2, 3, 4, 5));
    }

    /** "(One that is never the first that fits is passed over.)" */
    private static void lawPassesOver() {
        Due.is("36: behind one by 1 none is first", -1, Bench.withList(1, 1, 3, 2, 5, 7).law(1, 2, 3, 4, 5));
        Due.is("36: 4 has 2 in it", -1, Bench.withList(3, 2, 3, 4).law(7, 7, 0, 0, 0));
        Due.is("36: 2 has no 4 in it", 1, Bench.withList(9, 4, 1, 2).law(7, 7, 0, 0, 0));
        Due.is("36: 6 has 3 in it", -1, Bench.withList(2, 3, 1, 6).law(7, 7, 0, 0, 0));
        Due.is("36: 6 has no 4 in it", 1, Bench.withList(9, 4, 1, 6).law(7, 7, 0, 0, 0));
        Due.is("36: 12 has 4 and 6 in it", -1, Bench.withList(9, 4, 4, 6, 1, 12).law(7, 7, 0, 0, 0));
        Due.is("36: the same q again", -1, Bench.withList(3, 2, 1, 2).law(7, 7, 0, 0, 0));
        Due.is("36: q in lowest terms, 4 / 6 is 2 / 3", -1, Bench.withList(4, 6, 1, 3).law(7, 7, 0, 0, 0));
        Due.is("36: q in lowest terms, 2 / 6 is 1 / 3", 0, Bench.withList(2, 6).law(7, 7, 0, 0, 0));
        Due.is("36: a large q that has none before", 1,
            Bench.withList(3, 2, 1, 999999937).law(7, 7, 0, 0, 1));
        StepBench many = new StepBench();
        many.list();
        for (int i = 0; i < 39; i++) {
            many.fraction(3, 2);
        }
        many.fraction(1, 7);
        Due.is("36: the last of 40", 39, many.law(7, 7, 0, 1, 0));
        Due.is("36: none of 40", -1, many.law(7, 7, 0, 0, 0));
    }

    /** "The first fraction of THE LIST by which some number STEPS to one of another weight." */
    private static void lawFirstOne() {
        StepBench x = Bench.withList(2, 3, 5, 7, 11, 13, 17, 4);
        Due.is("36: the first", 0, x.law(1, 2, 3, 3, 0));
        Due.is("36: the second", 1, x.law(1, 1, 3, 4, 2));
        Due.is("36: the third never", 3, x.law(1, 1, 3, 3, 0));
        Due.is("36: two 2s are like one other", -1, x.law(1, 1, 3, 3, 2));
        Due.is("36: but for their number", 3, x.law(2, 2, 3, 3, 2));
    }

    /** "The weight of x: of all its primes, each as often as it is in x, the sum"; "(any ints)". */
    private static void lawOfWeights() {
        int most = Integer.MAX_VALUE;
        int least = Integer.MIN_VALUE;
        Due.is("36: 8 has three", -1, Bench.withList(8, 3).law(5, 15, 0, 0, 0));
        Due.is("36: 8 has not one", 0, Bench.withList(8, 3).law(5, 5, 0, 0, 0));
        Due.is("36: 2^29 has 29", -1, Bench.withList(1 << 29, 3).law(3, 87, 0, 0, 0));
        Due.is("36: 3^18 has 18", -1, Bench.withList(387420489, 2).law(36, 2, 0, 0, 0));
        Due.is("36: 5^12 has 12", -1, Bench.withList(244140625, 2).law(36, 0, 3, 0, 0));
        Due.is("36: 7^10 has 10", -1, Bench.withList(282475249, 2).law(30, 0, 0, 3, 0));
        Due.is("36: 11^8 has 8", -1, Bench.withList(214358881, 2).law(24, 0, 0, 0, 3));
        Due.is("36: all of 10^9 by 7^10", -1, Bench.withList(1000000000, 282475249).law(5, 0, 5, 9, 0));
        Due.is("36: the greatest int twice is not -2", 0, Bench.withList(4, 3).law(most, -2, 0, 0, 0));
        Due.is("36: the least int twice is not 0", 0, Bench.withList(4, 3).law(least, 0, 0, 0, 0));
        Due.is("36: the least int is not like the greatest", 0, Bench.withList(2, 3).law(least, most, 0, 0, 0));
        Due.is("36: the least is like the least", -1, Bench.withList(2, 3).law(least, least, 0, 0, 0));
        Due.is("36: the greatest int 28 times", 0, Bench.withList(1 << 28, 5).law(most, 0, -28, 0, 0));
        Due.is("36: 2^16 times 2^16 is not 0", 0, Bench.withList(1 << 16, 3).law(1 << 16, 0, 0, 0, 0));
        Due.is("36: below 0", -1, Bench.withList(6, 5).law(-1, 3, 2, 0, 0));
        Due.is("36: 6 weighs nothing then", -1, Bench.withList(6, 1).law(-1, 1, 0, 0, 0));
    }

    /** "2, 3, 5, 7 these four, all others w." */
    private static void lawOfLargePrimes() {
        int[] others = {11, 13, 107, 109, 31607, 31627, 999983, 999999929, 999999937};
        for (int p : others) {
            Due.is("36: " + p + " is one other", -1, Bench.withList(p, 2).law(9, 0, 0, 0, 9));
            Due.is("36: " + p + " has no other part", 0, Bench.withList(p, 2).law(9, 9, 9, 9, 8));
        }
        long[][] twos = {{31607, 31607}, {31601, 31607}, {11, 90909089}, {13, 76923071}};
        for (long[] one : twos) {
            Due.is("36: " + one[0] + " and " + one[1], -1, Bench.withList(one[0] * one[1], 2).law(4, 0, 0, 0, 2));
            Due.is("36: that is not one", 0, Bench.withList(one[0] * one[1], 2).law(2, 0, 0, 0, 2));
        }
        Due.is("36: 3 and 333333313", -1, Bench.withList(3L * 333333313, 2).law(9, 2, 0, 0, 7));
        Due.is("36: 49 is no other", -1, Bench.withList(49, 11).law(0, 0, 0, 3, 6));
        Due.is("36: 1 has no primes", -1, Bench.withList(2, 1).law(0, 5, 5, 5, 5));
        Due.is("36: of q as well", 0, Bench.withList(1, 999999937).law(0, 0, 0, 0, 1));
    }

    // ---- 37: row

    /** "NoSuchElementException: none such." */
    private static void rowNone() {
        Due.throwsA("37: new", GONE, () -> new StepBench().row(0));
        StepBench x = acts(stop());
        x.go(1, 2, 3, 4, 9);
        for (int i : new int[] {-1, 5, 6, 999, 1000, 1001, Integer.MIN_VALUE, Integer.MAX_VALUE}) {
            Due.throwsA("37: row(" + i + ") of five", GONE, () -> x.row(i));
        }
        Due.is("37: the first of five", 1, x.row(0));
        Due.is("37: the last of five", 1, x.row(4));
        x.list();
        x.word(1, 1);
        Due.throwsA("37: of an empty one", GONE, () -> x.row(0));
    }

    /** "ROW: numbers that were told last by a call that says so": of a shorter one nothing is left over. */
    private static void rowIsTheLast() {
        StepBench x = Bench.threeHalves();
        x.act(2, 0, 0, 0);
        x.rest(1);
        x.word(27, 40);
        x.go(9, 8, 7, 6, 1);
        Due.row("37: go behind word", x, 9, 8, 7, 6, 1);
        x.shape();
        Due.row("37: shape behind go", x, 3, 1, 2);
        x.fixed();
        Due.row("37: fixed behind shape", x, -1, 0);
        x.ring();
        Due.row("37: ring behind fixed", x, -1);
        x.back(8);
        Due.row("37: back behind ring", x, 5, 16);
        x.rings(2);
        Due.row("37: rings behind back", x, 1);
        x.back(0);
        Due.row("37: back behind rings", x, 0);
        x.word(7, 3);
        Due.row("37: word behind back", x, 1, 1, 1);
        x.back(1);
        Due.row("37: back behind word", x, 2);
        x.rings(4);
        Due.row("37: rings that are none", x);
        x.go(0, 0, 0, 0, 0);
        Due.row("37: go that is spent", x, 0, 0, 0, 0, 0);
    }
}
