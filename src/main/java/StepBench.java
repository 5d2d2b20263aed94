import java.util.Arrays;
import java.util.NoSuchElementException;

/**
 * A bench for machines that step a whole number by its rest alone: rules, lists of fractions, and
 * small machines with heaps that are made into such lists. The document is ../shared/DOC.md.
 *
 * <p>All rows are made with the object and used again, so that no call makes a new one.
 */
public final class StepBench {
    public static final int NONE = -1;
    public static final int SPENT = -2;

    private static final int NO_RULE = 0;
    private static final int A_RULE = 1;
    private static final int A_LIST = 2;

    /** The greatest size of a NUMBER, and of what a SHAPE holds. */
    private static final long LIMIT = 1000000000000000L;
    /** What a step answers where it ends, and where it is beyond: both are no NUMBERS. */
    private static final long ENDED = 2000000000000000L;
    private static final long BEYOND = 3000000000000000L;

    private static final int MOST_PART = 1000;
    private static final int LEAST_MEASURE = 2;
    private static final int MOST_MEASURE = 64;
    private static final int MOST_FRACTIONS = 40;
    private static final long MOST_OF_FRACTION = 1000000000L;
    private static final int MOST_NUMBERS = 1000;
    private static final int MOST_RESTS = 40;
    private static final int MOST_STEPS = 100000;
    private static final int MOST_TURNS = 12;
    private static final int MOST_WORDS = 20000;
    private static final int MOST_TRIED = 20000;
    private static final int MOST_TRIED_STEPS = 2000;
    private static final int MOST_DEPTH = 20;
    private static final int MOST_COMMON = 100000;
    private static final int MOST_ACTS = 12;
    private static final int HEAPS = 4;
    private static final int MOST_IN_HEAP = 1000;

    private static final int SPLIT_CLASS = -3;
    private static final int CLASS_TOO_LARGE = -4;

    private static final int ADD = 0;
    private static final int TAKE = 1;
    private static final int STOP = 2;

    /** The four primes of the heaps, then for each ACT those of GO and WAIT. */
    private static final int[] PRIMES = {
        2, 3, 5, 7, 11, 13, 17, 19, 23, 29, 31, 37, 41, 43, 47, 53, 59, 61, 67, 71, 73, 79, 83, 89, 97, 101, 103, 107
    };

    private int ruleKind = NO_RULE;
    private final Shares rule = new Shares();
    private final Shares drafted = new Shares();
    private final Shares turned = new Shares();
    private final Fractions fractions = new Fractions();
    private final Sheet laid = new Sheet();
    private final Numbers numbers = new Numbers(MOST_NUMBERS);
    private final Numbers found = new Numbers(MOST_NUMBERS);
    private final Numbers level = new Numbers(MOST_NUMBERS);
    private final Numbers theWord = new Numbers(MOST_RESTS);
    private final Numbers tried = new Numbers(MOST_TURNS);
    private final Shapes shapes = new Shapes();
    private final Product tops = new Product();
    private final Product bottoms = new Product();
    private final Machine machine = new Machine();

    public StepBench() {
    }

    // ---- rules and lists

    public boolean draft(int m) {
        if (m < LEAST_MEASURE || m > MOST_MEASURE) {
            return false;
        }
        drafted.begin(m);
        return true;
    }

    public boolean sheet(int kind, int n) {
        return laid.begin(kind, n);
    }

    public boolean entry(int i, long v) {
        return laid.write(i, v);
    }

    public int lay(int what) {
        if (!laid.isThere() || drafted.measure() == 0 || what < 0 || what > 2) {
            return NONE;
        }
        int n = Math.min(laid.entries(), drafted.measure());
        for (int r = 0; r < n; r++) {
            drafted.write(r, what, laid.read(r));
        }
        laid.drop();
        return n;
    }

    public int seal() throws IllegalStateException {
        if (drafted.measure() == 0) {
            throw new IllegalStateException("no draft");
        }
        int wrong = drafted.firstUnsound();
        if (wrong >= 0) {
            return -1 - wrong;
        }
        rule.become(drafted);
        drafted.drop();
        ruleKind = A_RULE;
        return 0;
    }

    public boolean list() {
        fractions.empty();
        ruleKind = A_LIST;
        return true;
    }

    public int fraction(long p, long q) {
        if (ruleKind != A_LIST || p < 1 || p > MOST_OF_FRACTION || q < 1 || q > MOST_OF_FRACTION) {
            return NONE;
        }
        return fractions.add(p, q) ? fractions.size() : NONE;
    }

    public int count(int what) {
        switch (what) {
            case 0:
                return ruleKind;
            case 1:
                return ruleKind == A_RULE ? rule.measure() : 0;
            case 2:
                return ruleKind == A_LIST ? fractions.size() : 0;
            case 3:
                return numbers.size();
            case 4:
                return theWord.size();
            case 5:
                return machine.size();
            case 6:
                return laid.isThere() ? laid.entries() : NONE;
            default:
                return NONE;
        }
    }

    public long told(int r, int what) throws NoSuchElementException {
        if (ruleKind == A_RULE && rule.has(r) && what >= 0 && what <= 2) {
            return rule.read(r, what);
        }
        if (ruleKind == A_LIST && fractions.has(r) && what >= 0 && what <= 1) {
            return what == 0 ? fractions.over(r) : fractions.under(r);
        }
        throw new NoSuchElementException("no such part of the rule");
    }

    // ---- steps

    public long step(long x) throws IllegalStateException, NoSuchElementException, ArithmeticException {
        return run(x, 1);
    }

    public long run(long x, int k)
            throws IllegalArgumentException, IllegalStateException, NoSuchElementException, ArithmeticException {
        refuseWrongStart(x, k);
        long y = x;
        for (int i = 0; i < k && isNumber(y); i++) {
            y = after(y);
        }
        if (y == ENDED) {
            throw new NoSuchElementException("the list ends");
        }
        if (y == BEYOND) {
            throw new ArithmeticException("beyond the numbers");
        }
        return y;
    }

    public int until(long x, long to, int k) {
        if (ruleKind == NO_RULE || !isNumber(x) || !isNumber(to) || !isStepCount(k)) {
            return NONE;
        }
        if (x == to) {
            return 0;
        }
        long y = x;
        for (int i = 1; i <= k; i++) {
            y = after(y);
            if (!isNumber(y)) {
                return NONE;
            }
            if (y == to) {
                return i;
            }
        }
        return SPENT;
    }

    public int height(long x, int k) {
        if (ruleKind == NO_RULE || !isNumber(x) || !isStepCount(k)) {
            return NONE;
        }
        return stepsTillBelow(x, k);
    }

    public long peak(long x, int k) throws IllegalArgumentException, IllegalStateException, ArithmeticException {
        refuseWrongStart(x, k);
        long greatest = x;
        long y = x;
        for (int i = 0; i < k; i++) {
            y = after(y);
            if (!isNumber(y)) {
                return greatest;
            }
            greatest = Math.max(greatest, y);
        }
        return greatest;
    }

    public int word(long x, int k) {
        if (ruleKind == NO_RULE || !isNumber(x) || k < 1 || k > MOST_RESTS) {
            return NONE;
        }
        found.empty();
        long y = x;
        for (int i = 0; i < k; i++) {
            if (i > 0) {
                y = after(y);
            }
            if (y == BEYOND) {
                return NONE;
            }
            int by = signOf(y);
            if (by < 0) {
                break;
            }
            found.add(by);
        }
        numbers.become(found);
        return numbers.size();
    }

    // ---- words, shapes, rings

    public int rest(int r) {
        if (r < 0 || r >= MOST_MEASURE) {
            return NONE;
        }
        return theWord.add(r) ? theWord.size() : NONE;
    }

    public int clear() {
        int had = theWord.size();
        theWord.empty();
        return had;
    }

    public int shape() {
        int answer = shapeTold();
        if (answer == 1) {
            int n = theWord.size();
            shapes.reduce(n);
            numbers.empty();
            numbers.add(shapes.factor(n));
            numbers.add(shapes.addend(n));
            numbers.add(shapes.divisor(n));
        }
        return answer;
    }

    public int ring() {
        int answer = shapeTold();
        if (answer != 1) {
            return answer;
        }
        int n = theWord.size();
        if (shapes.factor(n) == shapes.divisor(n)) {
            return shapes.addend(n) == 0 ? 2 : 0;
        }
        long x = ringNumber(theWord, n);
        if (!isNumber(x)) {
            return 0;
        }
        numbers.empty();
        numbers.add(x);
        return 1;
    }

    public int rings(int k) {
        if (ruleKind != A_RULE || k < 1 || k > MOST_TURNS) {
            return NONE;
        }
        int words = power(rule.measure(), k);
        if (words > MOST_WORDS) {
            return SPENT;
        }
        found.empty();
        int rings = 0;
        for (int i = 0; i < words; i++) {
            int changed = i == 0 ? firstWord(k) : nextWord(k);
            if (!shapeWord(tried, changed)) {
                return SPENT;
            }
            long x = ringNumber(tried, k);
            if (isNumber(x) && isLeastOfRing(x, k)) {
                rings++;
                found.sortIn(x);
            }
        }
        numbers.become(found);
        return rings;
    }

    public int falls(int k) {
        if (ruleKind != A_RULE || k < 1 || k > MOST_TURNS) {
            return NONE;
        }
        int classes = power(rule.measure(), k);
        if (classes > MOST_WORDS) {
            return SPENT;
        }
        int falling = 0;
        for (int c = 0; c < classes; c++) {
            int one = fallOfClass(c, classes, k);
            if (one < 0) {
                return one;
            }
            falling += one;
        }
        return falling;
    }

    public int least(int n, int k) {
        if (ruleKind == NO_RULE || n < 1 || n > MOST_TRIED || k < 0 || k > MOST_TRIED_STEPS) {
            return NONE;
        }
        // From 2 on 1 is below the number itself, and so needs no look of its own.
        for (int x = 2; x <= n; x++) {
            if (stepsTillBelow(x, k) < 0) {
                return x;
            }
        }
        return 0;
    }

    // ---- back

    public int back(long x) {
        if (ruleKind != A_RULE || !isNumber(x)) {
            return NONE;
        }
        numbers.empty();
        for (int r = 0; r < rule.measure(); r++) {
            long y = rule.before(x, r);
            if (isNumber(y)) {
                numbers.sortIn(y);
            }
        }
        return numbers.size();
    }

    public long whole(long x) {
        if (ruleKind != A_RULE) {
            return 0;
        }
        long bits = 0;
        for (int r = 0; r < rule.measure(); r++) {
            if (rule.a(r) == 0 && rule.first(r) == x) {
                bits |= 1L << r;
            }
        }
        return bits;
    }

    public int backs(long x, int k) {
        if (ruleKind != A_RULE || !isNumber(x) || k < 0 || k > MOST_DEPTH) {
            return NONE;
        }
        found.empty();
        found.add(x);
        for (int depth = 0; depth < k; depth++) {
            if (!goBackFromFound()) {
                return SPENT;
            }
        }
        return found.size();
    }

    public int both() {
        if (ruleKind != A_RULE) {
            return NONE;
        }
        if (rule.hasNoShare()) {
            return 0;
        }
        int common = rule.commonStride();
        if (common > MOST_COMMON) {
            return SPENT;
        }
        return rule.fillsOnce(common) ? 1 : 0;
    }

    public int turn() {
        if (both() != 1) {
            return NONE;
        }
        int m = rule.commonStride();
        if (m < LEAST_MEASURE || m > MOST_MEASURE) {
            return NONE;
        }
        turned.begin(m);
        for (int r = 0; r < m; r++) {
            turnRest(r);
        }
        if (turned.firstUnsound() >= 0) {
            return NONE;
        }
        rule.become(turned);
        return m;
    }

    public int drift() {
        if (ruleKind != A_RULE || rule.hasNoShare()) {
            return -2;
        }
        tops.begin();
        bottoms.begin();
        for (int r = 0; r < rule.measure(); r++) {
            tops.multiply(Math.abs(rule.a(r)));
            bottoms.multiply(rule.d(r));
        }
        return tops.against(bottoms);
    }

    public int fixed() {
        if (ruleKind != A_RULE) {
            return NONE;
        }
        numbers.empty();
        for (int r = 0; r < rule.measure(); r++) {
            long gap = rule.d(r) - rule.a(r);
            if (gap != 0 && rule.b(r) % gap == 0 && rule.restOf(rule.b(r) / gap) == r) {
                numbers.sortIn(rule.b(r) / gap);
            }
        }
        return numbers.size();
    }

    // ---- machines

    public int act(int kind, int heap, int i, int j) {
        if (kind < ADD || kind > STOP) {
            return NONE;
        }
        if (kind != STOP && (heap < 0 || heap >= HEAPS || !isActNumber(i))) {
            return NONE;
        }
        if (kind == TAKE && !isActNumber(j)) {
            return NONE;
        }
        return machine.add(kind, heap, i, j) ? machine.size() - 1 : NONE;
    }

    public int scrap() {
        int had = machine.size();
        machine.empty();
        return had;
    }

    public int go(int a, int b, int c, int d, int k) {
        if (machine.size() == 0 || !areHeaps(a, b, c, d) || !isStepCount(k)) {
            return NONE;
        }
        machine.fill(a, b, c, d);
        int answer = machine.work(k);
        numbers.empty();
        for (int h = 0; h < HEAPS; h++) {
            numbers.add(machine.inHeap(h));
        }
        numbers.add(machine.done());
        return answer;
    }

    public int made() {
        if (machine.size() == 0 || machine.fractionsNeeded() > MOST_FRACTIONS) {
            return NONE;
        }
        fractions.empty();
        for (int k = 0; k < machine.size(); k++) {
            addFractionsOfAct(k);
        }
        for (int k = 0; k < machine.size(); k++) {
            fractions.add(goPrime(k), waitPrime(k));
        }
        ruleKind = A_LIST;
        return fractions.size();
    }

    public long begins(int a, int b, int c, int d) throws IllegalArgumentException, ArithmeticException {
        if (!areHeaps(a, b, c, d)) {
            throw new IllegalArgumentException("a heap is not 0 to 1000");
        }
        long x = timesPower(goPrime(0), heapPrime(0), a);
        x = timesPower(x, heapPrime(1), b);
        x = timesPower(x, heapPrime(2), c);
        x = timesPower(x, heapPrime(3), d);
        if (!isNumber(x)) {
            throw new ArithmeticException("beyond the numbers");
        }
        return x;
    }

    public int law(int w0, int w1, int w2, int w3, int w) {
        if (ruleKind != A_LIST) {
            return SPENT;
        }
        for (int i = 0; i < fractions.size(); i++) {
            if (fractions.isEverFirst(i)
                    && weight(fractions.over(i), w0, w1, w2, w3, w)
                            != weight(fractions.under(i), w0, w1, w2, w3, w)) {
                return i;
            }
        }
        return NONE;
    }

    public long row(int i) throws NoSuchElementException {
        if (!numbers.has(i)) {
            throw new NoSuchElementException("no such number of the row");
        }
        return numbers.at(i);
    }

    // ---- what several calls share

    private static boolean isNumber(long x) {
        return x >= -LIMIT && x <= LIMIT;
    }

    private static boolean isStepCount(int k) {
        return k >= 0 && k <= MOST_STEPS;
    }

    private static boolean isActNumber(int i) {
        return i >= 0 && i < MOST_ACTS;
    }

    private static boolean areHeaps(int a, int b, int c, int d) {
        return isHeap(a) && isHeap(b) && isHeap(c) && isHeap(d);
    }

    private static boolean isHeap(int n) {
        return n >= 0 && n <= MOST_IN_HEAP;
    }

    /** The greatest common divisor by their sizes; 1 where both are 0, so that it may always divide. */
    private static long commonDivisor(long x, long y) {
        long u = Math.abs(x);
        long v = Math.abs(y);
        // Two longs need less than a hundred divisions.
        for (int i = 0; i < 1000 && v != 0; i++) {
            long w = u % v;
            u = v;
            v = w;
        }
        return u == 0 ? 1 : u;
    }

    /** m to the k, or just some number above MOST_WORDS if that is. */
    private static int power(int m, int k) {
        int all = 1;
        for (int i = 0; i < k && all <= MOST_WORDS; i++) {
            all *= m;
        }
        return all;
    }

    /** What run() and peak() ask ahead of the first step, in this order. */
    private void refuseWrongStart(long x, int k) {
        if (!isStepCount(k)) {
            throw new IllegalArgumentException("k is not 0 to 100000");
        }
        if (ruleKind == NO_RULE) {
            throw new IllegalStateException("no rule");
        }
        if (!isNumber(x)) {
            throw new ArithmeticException("x is no number");
        }
    }

    /** What a NUMBER steps to by THE RULE that there is: a NUMBER, ENDED or BEYOND. */
    private long after(long x) {
        return ruleKind == A_RULE ? rule.after(x) : fractions.after(x);
    }

    private int stepsTillBelow(long x, int k) {
        long y = x;
        for (int i = 1; i <= k; i++) {
            y = after(y);
            if (!isNumber(y)) {
                return NONE;
            }
            if (y < x) {
                return i;
            }
        }
        return SPENT;
    }

    /** By which REST or fraction a NUMBER steps; NONE where a LIST ends. */
    private int signOf(long x) {
        return ruleKind == A_RULE ? rule.restOf(x) : fractions.firstFit(x);
    }

    /** The shapes behind all steps of THE WORD: 1, or NONE or SPENT as shape() answers them. */
    private int shapeTold() {
        if (ruleKind != A_RULE || theWord.size() == 0) {
            return NONE;
        }
        for (int i = 0; i < theWord.size(); i++) {
            if (theWord.at(i) >= rule.measure()) {
                return NONE;
            }
        }
        return shapeWord(theWord, 0) ? 1 : SPENT;
    }

    /** The shapes behind the steps of a word from one step on; false if one is too large. */
    private boolean shapeWord(Numbers word, int from) {
        for (int i = from; i < word.size(); i++) {
            if (!shapes.extend(i, rule, (int) word.at(i))) {
                return false;
            }
        }
        return true;
    }

    /** The one number that takes the word of n rests and is itself behind it, or BEYOND. */
    private long ringNumber(Numbers word, int n) {
        long gap = shapes.divisor(n) - shapes.factor(n);
        if (gap == 0 || shapes.addend(n) % gap != 0) {
            return BEYOND;
        }
        long x = shapes.addend(n) / gap;
        long y = x;
        for (int i = 0; i < n; i++) {
            if (!isNumber(y) || rule.restOf(y) != word.at(i)) {
                return BEYOND;
            }
            y = rule.after(y);
        }
        return y == x ? x : BEYOND;
    }

    /** So each ring is met once, and one of fewer numbers, where x comes again too early, never. */
    private boolean isLeastOfRing(long x, int k) {
        long y = x;
        for (int i = 1; i < k; i++) {
            y = rule.after(y);
            if (y <= x) {
                return false;
            }
        }
        return true;
    }

    private int firstWord(int k) {
        tried.zeros(k);
        return 0;
    }

    /** The tried word becomes the next one, its last rest the fastest: the first place that changed. */
    private int nextWord(int k) {
        int place = k - 1;
        while (place > 0 && tried.at(place) == rule.measure() - 1) {
            tried.put(place, 0);
            place--;
        }
        tried.put(place, tried.at(place) + 1);
        return place;
    }

    /** 1 if the numbers c, c + classes, .. fall in k steps, 0 if not, or why that is not shown. */
    private int fallOfClass(int c, int classes, int k) {
        long lowest = c;
        long stride = classes;
        for (int i = 0; i < k; i++) {
            if (rule.restOf(stride) != 0) {
                return SPLIT_CLASS;
            }
            int r = rule.restOf(lowest);
            boolean fits = shapes.extend(i, rule, r);
            lowest = rule.after(lowest);
            stride = stride * rule.a(r) / rule.d(r);
            if (!fits || !isNumber(lowest) || !isNumber(stride)) {
                return CLASS_TOO_LARGE;
            }
        }
        return shapes.factor(k) < shapes.divisor(k) ? 1 : 0;
    }

    /** The found numbers become all those before them; false if they are too many. */
    private boolean goBackFromFound() {
        level.empty();
        for (int i = 0; i < found.size(); i++) {
            for (int r = 0; r < rule.measure(); r++) {
                long y = rule.before(found.at(i), r);
                if (isNumber(y) && !level.add(y)) {
                    return false;
                }
            }
        }
        found.become(level);
        return true;
    }

    /** The turned rule's share for a rest of it: the way back by the one rest of THE RULE that comes there. */
    private void turnRest(int rest) {
        int r = rule.restThatComesTo(rest);
        long sign = rule.a(r) < 0 ? -1 : 1;
        long a = sign * rule.d(r);
        long b = -sign * rule.b(r);
        long d = sign * rule.a(r);
        long common = commonDivisor(commonDivisor(a, b), d);
        turned.write(rest, 0, a / common);
        turned.write(rest, 1, b / common);
        turned.write(rest, 2, d / common);
    }

    private static long heapPrime(int h) {
        return prime(h);
    }

    private static long goPrime(int k) {
        return prime(HEAPS + 2 * k);
    }

    private static long waitPrime(int k) {
        return prime(HEAPS + 2 * k + 1);
    }

    private static long prime(int i) {
        return i >= 0 && i < PRIMES.length ? PRIMES[i] : 1;
    }

    private void addFractionsOfAct(int k) {
        long next = waitPrime(machine.next(k));
        long heap = heapPrime(machine.heap(k));
        switch (machine.kind(k)) {
            case ADD:
                fractions.add(next * heap, goPrime(k));
                break;
            case TAKE:
                fractions.add(next, goPrime(k) * heap);
                fractions.add(waitPrime(machine.otherwise(k)), goPrime(k));
                break;
            default:
                fractions.add(1, goPrime(k));
                break;
        }
    }

    /** x times a prime as often as told; BEYOND if that is, or x was no NUMBER already. */
    private static long timesPower(long x, long prime, int often) {
        long y = x;
        for (int i = 0; i < often && isNumber(y); i++) {
            y *= prime;
        }
        return isNumber(y) ? y : BEYOND;
    }

    private static long weight(long x, int w0, int w1, int w2, int w3, int w) {
        long sum = 0;
        long y = x;
        for (long f = 2; f * f <= MOST_OF_FRACTION && f * f <= y; f += f == 2 ? 1 : 2) {
            // No number of a fraction holds a prime more often than this.
            for (int i = 0; i < 64 && y % f == 0; i++) {
                y /= f;
                sum += weightOfPrime(f, w0, w1, w2, w3, w);
            }
        }
        return y > 1 ? sum + weightOfPrime(y, w0, w1, w2, w3, w) : sum;
    }

    private static long weightOfPrime(long prime, int w0, int w1, int w2, int w3, int w) {
        if (prime == heapPrime(0)) {
            return w0;
        }
        if (prime == heapPrime(1)) {
            return w1;
        }
        if (prime == heapPrime(2)) {
            return w2;
        }
        return prime == heapPrime(3) ? w3 : w;
    }

    /** A row of numbers that never holds more than it was made for. */
    private static final class Numbers {
        private final long[] cells;
        private int size = 0;

        Numbers(int most) {
            cells = new long[Math.max(most, 0)];
        }

        int size() {
            return size;
        }

        boolean has(int i) {
            return i >= 0 && i < size && i < cells.length;
        }

        long at(int i) {
            return has(i) ? cells[i] : 0;
        }

        void put(int i, long v) {
            if (has(i)) {
                cells[i] = v;
            }
        }

        void empty() {
            size = 0;
        }

        boolean add(long v) {
            if (size < 0 || size >= cells.length) {
                return false;
            }
            cells[size] = v;
            size++;
            return true;
        }

        void zeros(int n) {
            size = 0;
            for (int i = 0; i < n; i++) {
                add(0);
            }
        }

        void become(Numbers other) {
            size = 0;
            for (int i = 0; i < other.size; i++) {
                add(other.at(i));
            }
        }

        /** Puts v into an ascending row, out of which the greatest falls if it is full. */
        void sortIn(long v) {
            if (!add(v)) {
                if (v >= at(size - 1)) {
                    return;
                }
                put(size - 1, v);
            }
            for (int i = size - 1; i > 0 && at(i - 1) > v; i--) {
                put(i, at(i - 1));
                put(i - 1, v);
            }
        }
    }

    /** A SHEET: a row of bytes, ints or longs, a missing one, or none. */
    private static final class Sheet {
        private static final int ABSENT = -1;
        private static final int BYTES = 0;
        private static final int INTS = 1;
        private static final int LONGS = 2;
        private static final int MISSING = 3;

        private int type = ABSENT;
        private final Numbers cells = new Numbers(MOST_MEASURE);

        boolean begin(int newType, int n) {
            boolean isRow = newType >= BYTES && newType <= LONGS && n >= 0 && n <= MOST_MEASURE;
            if (!isRow && newType != MISSING) {
                return false;
            }
            type = newType;
            cells.zeros(isRow ? n : 0);
            return true;
        }

        boolean isThere() {
            return type != ABSENT;
        }

        int entries() {
            return cells.size();
        }

        long read(int i) {
            return cells.at(i);
        }

        boolean write(int i, long v) {
            if (!cells.has(i)) {
                return false;
            }
            if (type == BYTES) {
                cells.put(i, (byte) v);
            } else if (type == INTS) {
                cells.put(i, (int) v);
            } else {
                cells.put(i, v);
            }
            return true;
        }

        void drop() {
            type = ABSENT;
            cells.empty();
        }
    }

    /** A MEASURE, 0 where there is none, and a, b, d for each REST: a RULE, or a draft of one. */
    private static final class Shares {
        private int measure = 0;
        private final long[] as = new long[MOST_MEASURE];
        private final long[] bs = new long[MOST_MEASURE];
        private final long[] ds = new long[MOST_MEASURE];

        int measure() {
            return measure;
        }

        boolean has(int r) {
            return r >= 0 && r < measure && r < MOST_MEASURE;
        }

        void begin(int m) {
            measure = m;
            Arrays.fill(as, 1);
            Arrays.fill(bs, 0);
            Arrays.fill(ds, 1);
        }

        void drop() {
            measure = 0;
        }

        void become(Shares other) {
            measure = other.measure;
            System.arraycopy(other.as, 0, as, 0, MOST_MEASURE);
            System.arraycopy(other.bs, 0, bs, 0, MOST_MEASURE);
            System.arraycopy(other.ds, 0, ds, 0, MOST_MEASURE);
        }

        long read(int r, int what) {
            if (!has(r)) {
                return 0;
            }
            return what == 0 ? as[r] : what == 1 ? bs[r] : ds[r];
        }

        void write(int r, int what, long v) {
            if (!has(r)) {
                return;
            }
            if (what == 0) {
                as[r] = v;
            } else if (what == 1) {
                bs[r] = v;
            } else {
                ds[r] = v;
            }
        }

        long a(int r) {
            return has(r) ? as[r] : 0;
        }

        long b(int r) {
            return has(r) ? bs[r] : 0;
        }

        /** At least 1, so that it may always divide. */
        long d(int r) {
            return has(r) && ds[r] > 1 ? ds[r] : 1;
        }

        /** The first REST that is not as a RULE wants it, or -1. */
        int firstUnsound() {
            for (int r = 0; r < measure; r++) {
                if (!isSound(r)) {
                    return r;
                }
            }
            return -1;
        }

        private boolean isSound(int r) {
            return isPart(read(r, 0))
                    && isPart(read(r, 1))
                    && isPart(read(r, 2))
                    && read(r, 2) >= 1
                    && (a(r) * r + b(r)) % d(r) == 0
                    && a(r) * measure % d(r) == 0;
        }

        private static boolean isPart(long v) {
            return v >= -MOST_PART && v <= MOST_PART;
        }

        int restOf(long x) {
            return measure < 1 ? 0 : (int) Math.floorMod(x, (long) measure);
        }

        long after(long x) {
            int r = restOf(x);
            long y = (a(r) * x + b(r)) / d(r);
            return isNumber(y) ? y : BEYOND;
        }

        /** The NUMBER of REST r that steps to x, if its a is not 0; else BEYOND. */
        long before(long x, int r) {
            long a = a(r);
            if (a == 0) {
                return BEYOND;
            }
            long times = d(r) * x - b(r);
            if (times % a != 0) {
                return BEYOND;
            }
            long y = times / a;
            return isNumber(y) && restOf(y) == r ? y : BEYOND;
        }

        boolean hasNoShare() {
            for (int r = 0; r < measure; r++) {
                if (a(r) == 0) {
                    return true;
                }
            }
            return false;
        }

        /** What the number r itself steps to: the numbers of REST r come to it and on by strides. */
        long first(int r) {
            return (a(r) * r + b(r)) / d(r);
        }

        /** How far apart what the numbers of REST r step to lies: at least 1 if its a is not 0. */
        long stride(int r) {
            return Math.abs(a(r) * measure / d(r));
        }

        /** The least common multiple of all strides that are not 0, or just one above MOST_COMMON. */
        int commonStride() {
            long common = 1;
            for (int r = 0; r < measure && common <= MOST_COMMON; r++) {
                long stride = stride(r);
                if (stride > 0) {
                    common = common / commonDivisor(common, stride) * stride;
                }
            }
            return (int) Math.min(common, MOST_COMMON + 1);
        }

        /** Whether what the RESTS step to fills all whole numbers once: no two meet, and none is left. */
        boolean fillsOnce(int common) {
            long filled = 0;
            for (int r = 0; r < measure; r++) {
                filled += common / Math.max(stride(r), 1);
                for (int s = 0; s < r; s++) {
                    if ((first(r) - first(s)) % commonDivisor(stride(r), stride(s)) == 0) {
                        return false;
                    }
                }
            }
            return filled == common;
        }

        /** The REST out of which x is stepped to, where just one such is: the first one. */
        int restThatComesTo(long x) {
            for (int r = 0; r < measure; r++) {
                if ((x - first(r)) % Math.max(stride(r), 1) == 0) {
                    return r;
                }
            }
            return 0;
        }
    }

    /** THE LIST's fractions, each in lowest terms. */
    private static final class Fractions {
        private int size = 0;
        private final long[] overs = new long[MOST_FRACTIONS];
        private final long[] unders = new long[MOST_FRACTIONS];

        int size() {
            return size;
        }

        boolean has(int i) {
            return i >= 0 && i < size && i < MOST_FRACTIONS;
        }

        void empty() {
            size = 0;
        }

        boolean add(long p, long q) {
            if (size < 0 || size >= MOST_FRACTIONS) {
                return false;
            }
            long common = commonDivisor(p, q);
            overs[size] = p / common;
            unders[size] = q / common;
            size++;
            return true;
        }

        /** At least 1, as under() too, so that it may always divide. */
        long over(int i) {
            return has(i) && overs[i] > 1 ? overs[i] : 1;
        }

        long under(int i) {
            return has(i) && unders[i] > 1 ? unders[i] : 1;
        }

        /** The first fraction by which x is whole, or NONE. */
        int firstFit(long x) {
            if (x < 1) {
                return NONE;
            }
            for (int i = 0; i < size; i++) {
                if (x % under(i) == 0) {
                    return i;
                }
            }
            return NONE;
        }

        long after(long x) {
            int i = firstFit(x);
            if (i < 0) {
                return ENDED;
            }
            long parts = x / under(i);
            return parts > LIMIT / over(i) ? BEYOND : parts * over(i);
        }

        /** If an earlier q goes into this one's, that fraction fits wherever this one does. */
        boolean isEverFirst(int i) {
            return firstFit(under(i)) == i;
        }
    }

    /** The shapes (factor x + addend) / divisor behind the steps of a word, behind none the first. */
    private static final class Shapes {
        private final long[] factors = new long[MOST_RESTS + 1];
        private final long[] addends = new long[MOST_RESTS + 1];
        private final long[] divisors = new long[MOST_RESTS + 1];

        Shapes() {
            factors[0] = 1;
            divisors[0] = 1;
        }

        private static boolean has(int i) {
            return i >= 0 && i <= MOST_RESTS;
        }

        long factor(int i) {
            return has(i) ? factors[i] : 0;
        }

        long addend(int i) {
            return has(i) ? addends[i] : 0;
        }

        long divisor(int i) {
            return has(i) ? divisors[i] : 1;
        }

        /**
         * The shape behind i steps and one more by a REST; false if it is too large. It is brought to
         * lowest terms only where it would be too large else: that is seldom, and dear.
         */
        boolean extend(int i, Shares by, int r) {
            if (!has(i) || !has(i + 1)) {
                return false;
            }
            factors[i + 1] = by.a(r) * factors[i];
            addends[i + 1] = by.a(r) * addends[i] + by.b(r) * divisors[i];
            divisors[i + 1] = by.d(r) * divisors[i];
            if (fits(i + 1)) {
                return true;
            }
            reduce(i + 1);
            return fits(i + 1);
        }

        private boolean fits(int i) {
            return has(i) && isNumber(factors[i]) && isNumber(addends[i]) && isNumber(divisors[i]);
        }

        void reduce(int i) {
            if (has(i)) {
                long common = commonDivisor(commonDivisor(factors[i], divisors[i]), addends[i]);
                factors[i] /= common;
                addends[i] /= common;
                divisors[i] /= common;
            }
        }
    }

    /** A product of up to 64 numbers of at most 1000, in digits of nine figures, the lowest first. */
    private static final class Product {
        private static final long BASE = 1000000000L;
        private static final int DIGITS = 24;

        private final long[] digits = new long[DIGITS];

        void begin() {
            for (int i = 0; i < DIGITS; i++) {
                digits[i] = i == 0 ? 1 : 0;
            }
        }

        void multiply(long by) {
            long carry = 0;
            for (int i = 0; i < DIGITS; i++) {
                long here = digits[i] * by + carry;
                digits[i] = here % BASE;
                carry = here / BASE;
            }
        }

        /** 1, 0, -1: this is greater than the other, like it, less. */
        int against(Product other) {
            for (int i = DIGITS - 1; i >= 0; i--) {
                if (digits[i] != other.digits[i]) {
                    return digits[i] > other.digits[i] ? 1 : -1;
                }
            }
            return 0;
        }
    }

    /** THE MACHINE: its ACTS and, while it works, its heaps. */
    private static final class Machine {
        private final Numbers kinds = new Numbers(MOST_ACTS);
        private final Numbers heapsOf = new Numbers(MOST_ACTS);
        private final Numbers nexts = new Numbers(MOST_ACTS);
        private final Numbers otherwises = new Numbers(MOST_ACTS);
        private final Numbers heaps = new Numbers(HEAPS);
        private int done = 0;

        int size() {
            return kinds.size();
        }

        void empty() {
            kinds.empty();
            heapsOf.empty();
            nexts.empty();
            otherwises.empty();
        }

        boolean add(int kind, int heap, int next, int otherwise) {
            return kinds.add(kind) && heapsOf.add(heap) && nexts.add(next) && otherwises.add(otherwise);
        }

        int kind(int k) {
            return (int) kinds.at(k);
        }

        int heap(int k) {
            return (int) heapsOf.at(k);
        }

        int next(int k) {
            return (int) nexts.at(k);
        }

        int otherwise(int k) {
            return (int) otherwises.at(k);
        }

        void fill(int a, int b, int c, int d) {
            heaps.empty();
            heaps.add(a);
            heaps.add(b);
            heaps.add(c);
            heaps.add(d);
        }

        long inHeap(int h) {
            return heaps.at(h);
        }

        int done() {
            return done;
        }

        /** At most k ACTS from ACT 0 on: 1 at a STOP, 0 at an ACT that is not there, else SPENT. */
        int work(int k) {
            int here = 0;
            done = 0;
            while (done < k && here < size()) {
                done++;
                if (kind(here) == STOP) {
                    return 1;
                }
                here = follow(here);
            }
            return here < size() ? SPENT : 0;
        }

        /** Does an ACT that is no STOP, and tells the one that comes then. */
        private int follow(int k) {
            int h = heap(k);
            if (kind(k) == ADD) {
                heaps.put(h, heaps.at(h) + 1);
                return next(k);
            }
            if (heaps.at(h) == 0) {
                return otherwise(k);
            }
            heaps.put(h, heaps.at(h) - 1);
            return next(k);
        }

        int fractionsNeeded() {
            int needed = 2 * size();
            for (int k = 0; k < size(); k++) {
                needed += kind(k) == TAKE ? 1 : 0;
            }
            return needed;
        }
    }
}
