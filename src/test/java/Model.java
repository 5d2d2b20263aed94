import java.math.BigInteger;
import java.util.ArrayList;
import java.util.List;
import java.util.NoSuchElementException;
import java.util.TreeSet;

/** What the document says, done in the plainest way: with big integers, sets, and no care for speed. */
final class Model {
    private static final BigInteger LIMIT = BigInteger.valueOf(1000000000000000L);
    private static final long NONE = -1;
    private static final long SPENT = -2;

    private int kind = 0;
    private long[][] rule = new long[0][];
    private List<BigInteger[]> list = new ArrayList<>();
    private long[][] draft = null;
    private long[] sheet = null;
    private int sheetKind = -1;
    private List<BigInteger> row = new ArrayList<>();
    private List<Integer> word = new ArrayList<>();
    private List<int[]> acts = new ArrayList<>();

    private static BigInteger big(long x) {
        return BigInteger.valueOf(x);
    }

    private static boolean isNumber(BigInteger x) {
        return x.abs().compareTo(LIMIT) <= 0;
    }

    // ---- rules and lists

    boolean draft(int m) {
        if (m < 2 || m > 64) {
            return false;
        }
        draft = new long[m][];
        for (int r = 0; r < m; r++) {
            draft[r] = new long[] {1, 0, 1};
        }
        return true;
    }

    boolean sheet(int newKind, int n) {
        if (newKind == 3) {
            sheet = null;
            sheetKind = 3;
            return true;
        }
        if (newKind < 0 || newKind > 3 || n < 0 || n > 64) {
            return false;
        }
        sheet = new long[n];
        sheetKind = newKind;
        return true;
    }

    boolean entry(int i, long v) {
        if (sheet == null || i < 0 || i >= sheet.length) {
            return false;
        }
        sheet[i] = sheetKind == 0 ? big(v).byteValue() : sheetKind == 1 ? big(v).intValue() : v;
        return true;
    }

    long lay(int what) {
        if (sheetKind == -1 || draft == null || what < 0 || what > 2) {
            return NONE;
        }
        int laid = 0;
        while (sheet != null && laid < sheet.length && laid < draft.length) {
            draft[laid][what] = sheet[laid];
            laid++;
        }
        sheet = null;
        sheetKind = -1;
        return laid;
    }

    long seal() {
        if (draft == null) {
            throw new IllegalStateException();
        }
        for (int r = 0; r < draft.length; r++) {
            long[] s = draft[r];
            boolean told = within(s[0], -1000, 1000) && within(s[1], -1000, 1000) && within(s[2], 1, 1000);
            if (!told || !isWhole(s, r, draft.length)) {
                return -1 - r;
            }
        }
        kind = 1;
        rule = draft;
        draft = null;
        return 0;
    }

    private static boolean within(long v, long least, long most) {
        return v >= least && v <= most;
    }

    /** Two neighbours of the rest tell it for all: what they step to, and how far apart that is, is whole. */
    private static boolean isWhole(long[] s, int r, int m) {
        return (s[0] * r + s[1]) % s[2] == 0 && (s[0] * (r + m) + s[1]) % s[2] == 0;
    }

    boolean list() {
        kind = 2;
        list = new ArrayList<>();
        return true;
    }

    long fraction(long p, long q) {
        if (kind != 2 || !within(p, 1, 1000000000) || !within(q, 1, 1000000000) || list.size() == 40) {
            return NONE;
        }
        BigInteger g = big(p).gcd(big(q));
        list.add(new BigInteger[] {big(p).divide(g), big(q).divide(g)});
        return list.size();
    }

    long count(int what) {
        switch (what) {
            case 0: return kind;
            case 1: return kind == 1 ? rule.length : 0;
            case 2: return kind == 2 ? list.size() : 0;
            case 3: return row.size();
            case 4: return word.size();
            case 5: return acts.size();
            case 6: return sheetKind == -1 ? NONE : sheet == null ? 0 : sheet.length;
            default: return NONE;
        }
    }

    long told(int r, int what) {
        if (kind == 1 && within(r, 0, rule.length - 1) && within(what, 0, 2)) {
            return rule[r][what];
        }
        if (kind == 2 && within(r, 0, list.size() - 1) && within(what, 0, 1)) {
            return list.get(r)[what].longValueExact();
        }
        throw new NoSuchElementException();
    }

    // ---- steps

    private int restOf(BigInteger x) {
        return x.mod(big(rule.length)).intValueExact();
    }

    private int fit(BigInteger x) {
        for (int i = 0; x.signum() > 0 && i < list.size(); i++) {
            if (x.multiply(list.get(i)[0]).mod(list.get(i)[1]).signum() == 0) {
                return i;
            }
        }
        return -1;
    }

    /** What x steps to, however large; null where the list ends. */
    private BigInteger next(BigInteger x) {
        if (kind == 1) {
            long[] s = rule[restOf(x)];
            BigInteger[] parts = x.multiply(big(s[0])).add(big(s[1])).divideAndRemainder(big(s[2]));
            if (parts[1].signum() != 0) {
                throw new AssertionError("a rule that is not whole");
            }
            return parts[0];
        }
        int i = fit(x);
        return i < 0 ? null : x.multiply(list.get(i)[0]).divide(list.get(i)[1]);
    }

    long step(long x) {
        return run(x, 1);
    }

    long run(long x, int k) {
        if (!within(k, 0, 100000)) {
            throw new IllegalArgumentException();
        }
        if (kind == 0) {
            throw new IllegalStateException();
        }
        if (!isNumber(big(x))) {
            throw new ArithmeticException();
        }
        BigInteger y = big(x);
        for (int i = 0; i < k; i++) {
            y = next(y);
            if (y == null) {
                throw new NoSuchElementException();
            }
            if (!isNumber(y)) {
                throw new ArithmeticException();
            }
        }
        return y.longValueExact();
    }

    /** x and all that it comes to within k steps, as far as it goes. */
    private List<BigInteger> way(long x, int k) {
        List<BigInteger> way = new ArrayList<>();
        BigInteger y = big(x);
        way.add(y);
        for (int i = 0; i < k; i++) {
            y = next(y);
            if (y == null || !isNumber(y)) {
                break;
            }
            way.add(y);
        }
        return way;
    }

    long until(long x, long to, int k) {
        if (kind == 0 || !within(k, 0, 100000) || !isNumber(big(x)) || !isNumber(big(to))) {
            return NONE;
        }
        List<BigInteger> way = way(x, k);
        int at = way.indexOf(big(to));
        return at >= 0 ? at : way.size() <= k ? NONE : SPENT;
    }

    long height(long x, int k) {
        if (kind == 0 || !within(k, 0, 100000) || !isNumber(big(x))) {
            return NONE;
        }
        return heightOf(x, k);
    }

    private long heightOf(long x, int k) {
        List<BigInteger> way = way(x, k);
        for (int i = 0; i < way.size(); i++) {
            if (way.get(i).compareTo(big(x)) < 0) {
                return i;
            }
        }
        return way.size() <= k ? NONE : SPENT;
    }

    long peak(long x, int k) {
        if (!within(k, 0, 100000)) {
            throw new IllegalArgumentException();
        }
        if (kind == 0) {
            throw new IllegalStateException();
        }
        if (!isNumber(big(x))) {
            throw new ArithmeticException();
        }
        BigInteger most = big(x);
        for (BigInteger y : way(x, k)) {
            most = most.max(y);
        }
        return most.longValueExact();
    }

    long word(long x, int k) {
        if (kind == 0 || !isNumber(big(x)) || !within(k, 1, 40)) {
            return NONE;
        }
        List<BigInteger> signs = new ArrayList<>();
        BigInteger y = big(x);
        while (signs.size() < k && y != null) {
            if (!isNumber(y)) {
                return NONE;
            }
            int sign = kind == 1 ? restOf(y) : fit(y);
            if (sign < 0) {
                break;
            }
            signs.add(big(sign));
            y = next(y);
        }
        row = signs;
        return row.size();
    }

    // ---- words, shapes, rings

    long rest(int r) {
        if (!within(r, 0, 63) || word.size() == 40) {
            return NONE;
        }
        word.add(r);
        return word.size();
    }

    long clear() {
        int had = word.size();
        word = new ArrayList<>();
        return had;
    }

    /** A, B, D behind the word's steps, or null if it is too large. */
    private BigInteger[] shapeOf(List<Integer> rests) {
        BigInteger a = BigInteger.ONE;
        BigInteger b = BigInteger.ZERO;
        BigInteger d = BigInteger.ONE;
        for (int r : rests) {
            long[] s = rule[r];
            a = a.multiply(big(s[0]));
            b = b.multiply(big(s[0])).add(d.multiply(big(s[1])));
            d = d.multiply(big(s[2]));
            BigInteger g = a.gcd(b).gcd(d);
            a = a.divide(g);
            b = b.divide(g);
            d = d.divide(g);
            if (!isNumber(a) || !isNumber(b) || !isNumber(d)) {
                return null;
            }
        }
        return new BigInteger[] {a, b, d};
    }

    private long wordState() {
        if (kind != 1 || word.isEmpty()) {
            return NONE;
        }
        for (int r : word) {
            if (r >= rule.length) {
                return NONE;
            }
        }
        return shapeOf(word) == null ? SPENT : 1;
    }

    long shape() {
        long state = wordState();
        if (state == 1) {
            row = new ArrayList<>(List.of(shapeOf(word)));
        }
        return state;
    }

    /** The numbers of the word's one ring, or null if it has none such. */
    private List<BigInteger> ringOf(List<Integer> rests) {
        BigInteger[] s = shapeOf(rests);
        BigInteger gap = s[2].subtract(s[0]);
        if (gap.signum() == 0 || s[1].mod(gap.abs()).signum() != 0) {
            return null;
        }
        List<BigInteger> ring = new ArrayList<>();
        BigInteger x = s[1].divide(gap);
        for (int r : rests) {
            if (!isNumber(x) || restOf(x) != r) {
                return null;
            }
            ring.add(x);
            x = next(x);
        }
        return x.equals(ring.get(0)) ? ring : null;
    }

    long ring() {
        long state = wordState();
        if (state != 1) {
            return state;
        }
        BigInteger[] s = shapeOf(word);
        if (s[0].equals(s[2])) {
            return s[1].signum() == 0 ? 2 : 0;
        }
        List<BigInteger> ring = ringOf(word);
        if (ring == null) {
            return 0;
        }
        row = new ArrayList<>();
        row.add(ring.get(0));
        return 1;
    }

    private static List<Integer> wordNumber(int i, int m, int k) {
        List<Integer> rests = new ArrayList<>();
        int left = i;
        for (int j = 0; j < k; j++) {
            rests.add(left % m);
            left /= m;
        }
        return rests;
    }

    private int power(int k) {
        return big(rule.length).pow(k).min(big(1000000)).intValueExact();
    }

    long rings(int k) {
        if (kind != 1 || !within(k, 1, 12)) {
            return NONE;
        }
        if (power(k) > 20000) {
            return SPENT;
        }
        TreeSet<BigInteger> least = new TreeSet<>();
        for (int i = 0; i < power(k); i++) {
            List<Integer> rests = wordNumber(i, rule.length, k);
            if (shapeOf(rests) == null) {
                return SPENT;
            }
            List<BigInteger> ring = ringOf(rests);
            if (ring != null && new TreeSet<>(ring).size() == k) {
                least.add(new TreeSet<>(ring).first());
            }
        }
        row = new ArrayList<>(least);
        while (row.size() > 1000) {
            row.remove(row.size() - 1);
        }
        return least.size();
    }

    long falls(int k) {
        if (kind != 1 || !within(k, 1, 12)) {
            return NONE;
        }
        int all = power(k);
        if (all > 20000) {
            return SPENT;
        }
        int falling = 0;
        for (int c = 0; c < all; c++) {
            BigInteger y = big(c);
            // What its neighbour of the same rest comes to tells how far apart they lie.
            BigInteger z = big(c + all);
            List<Integer> rests = new ArrayList<>();
            for (int i = 0; i < k; i++) {
                if (restOf(y) != restOf(z)) {
                    return -3;
                }
                rests.add(restOf(y));
                y = next(y);
                z = next(z);
                BigInteger[] s = shapeOf(rests);
                if (s == null || !isNumber(y) || !isNumber(z.subtract(y))) {
                    return -4;
                }
            }
            BigInteger[] s = shapeOf(rests);
            falling += s[0].compareTo(s[2]) < 0 ? 1 : 0;
        }
        return falling;
    }

    long least(int n, int k) {
        if (kind == 0 || !within(n, 1, 20000) || !within(k, 0, 2000)) {
            return NONE;
        }
        for (int x = 1; x <= n; x++) {
            boolean comes = false;
            for (BigInteger y : way(x, k)) {
                comes |= y.compareTo(big(x)) < 0 || y.equals(BigInteger.ONE);
            }
            if (!comes) {
                return x;
            }
        }
        return 0;
    }

    // ---- back

    private List<BigInteger> before(BigInteger x) {
        TreeSet<BigInteger> before = new TreeSet<>();
        for (int r = 0; r < rule.length; r++) {
            long[] s = rule[r];
            if (s[0] != 0) {
                BigInteger[] parts = x.multiply(big(s[2])).subtract(big(s[1])).divideAndRemainder(big(s[0]));
                if (parts[1].signum() == 0 && isNumber(parts[0]) && restOf(parts[0]) == r) {
                    before.add(parts[0]);
                }
            }
        }
        return new ArrayList<>(before);
    }

    long back(long x) {
        if (kind != 1 || !isNumber(big(x))) {
            return NONE;
        }
        row = before(big(x));
        return row.size();
    }

    long whole(long x) {
        BigInteger bits = BigInteger.ZERO;
        for (int r = 0; kind == 1 && r < rule.length; r++) {
            if (rule[r][0] == 0 && rule[r][1] == x * rule[r][2] && isNumber(big(x))) {
                bits = bits.setBit(r);
            }
        }
        return bits.longValue();
    }

    long backs(long x, int k) {
        if (kind != 1 || !isNumber(big(x)) || !within(k, 0, 20)) {
            return NONE;
        }
        TreeSet<BigInteger> here = new TreeSet<>();
        here.add(big(x));
        for (int i = 0; i < k; i++) {
            TreeSet<BigInteger> there = new TreeSet<>();
            for (BigInteger y : here) {
                there.addAll(before(y));
            }
            if (there.size() > 1000) {
                return SPENT;
            }
            here = there;
        }
        return here.size();
    }

    private boolean hasZero() {
        for (long[] s : rule) {
            if (s[0] == 0) {
                return true;
            }
        }
        return false;
    }

    /** What the numbers of rest r come to: one of it, and how far apart they lie. */
    private BigInteger[] image(int r) {
        BigInteger one = next(big(r));
        return new BigInteger[] {one, next(big(r + rule.length)).subtract(one).abs()};
    }

    private BigInteger backMeasure() {
        BigInteger m = BigInteger.ONE;
        for (int r = 0; r < rule.length; r++) {
            BigInteger apart = image(r)[1];
            m = m.divide(m.gcd(apart)).multiply(apart);
        }
        return m;
    }

    long both() {
        if (kind != 1) {
            return NONE;
        }
        if (hasZero()) {
            return 0;
        }
        if (backMeasure().compareTo(big(100000)) > 0) {
            return SPENT;
        }
        int[] met = new int[backMeasure().intValueExact()];
        for (int r = 0; r < rule.length; r++) {
            BigInteger[] image = image(r);
            for (int i = image[0].mod(image[1]).intValueExact(); i < met.length; i += image[1].intValueExact()) {
                met[i]++;
            }
        }
        for (int times : met) {
            if (times != 1) {
                return 0;
            }
        }
        return 1;
    }

    long turn() {
        if (both() != 1 || backMeasure().compareTo(big(64)) > 0) {
            return NONE;
        }
        long[][] turned = new long[backMeasure().intValueExact()][];
        for (int y = 0; y < turned.length; y++) {
            for (int r = 0; r < rule.length; r++) {
                BigInteger[] image = image(r);
                if (big(y).subtract(image[0]).mod(image[1]).signum() == 0) {
                    turned[y] = lowest(rule[r][2], -rule[r][1], rule[r][0]);
                }
            }
        }
        rule = turned;
        return rule.length;
    }

    private static long[] lowest(long a, long b, long d) {
        long g = big(a).gcd(big(b)).gcd(big(d)).longValueExact() * (d < 0 ? -1 : 1);
        return new long[] {a / g, b / g, d / g};
    }

    long drift() {
        if (kind != 1 || hasZero()) {
            return -2;
        }
        BigInteger over = BigInteger.ONE;
        BigInteger under = BigInteger.ONE;
        for (long[] s : rule) {
            over = over.multiply(big(s[0]).abs());
            under = under.multiply(big(s[2]));
        }
        return over.compareTo(under);
    }

    long fixed() {
        if (kind != 1) {
            return NONE;
        }
        TreeSet<BigInteger> fixed = new TreeSet<>();
        // A number that is itself behind (a x + b) / d with a other than d is no larger than b.
        for (int x = -1000; x <= 1000; x++) {
            long[] s = rule[restOf(big(x))];
            if (s[0] != s[2] && next(big(x)).equals(big(x))) {
                fixed.add(big(x));
            }
        }
        row = new ArrayList<>(fixed);
        return row.size();
    }

    // ---- machines

    long act(int kindOf, int heap, int i, int j) {
        boolean told;
        switch (kindOf) {
            case 0: told = within(heap, 0, 3) && within(i, 0, 11); break;
            case 1: told = within(heap, 0, 3) && within(i, 0, 11) && within(j, 0, 11); break;
            case 2: told = true; break;
            default: told = false; break;
        }
        if (!told || acts.size() == 12) {
            return NONE;
        }
        acts.add(new int[] {kindOf, heap, i, j});
        return acts.size() - 1;
    }

    long scrap() {
        int had = acts.size();
        acts = new ArrayList<>();
        return had;
    }

    long go(int a, int b, int c, int d, int k) {
        long[] heaps = {a, b, c, d};
        if (acts.isEmpty() || !within(k, 0, 100000) || !areHeaps(heaps)) {
            return NONE;
        }
        int at = 0;
        int done = 0;
        long answer = SPENT;
        while (answer == SPENT) {
            if (at >= acts.size()) {
                answer = 0;
            } else if (done == k) {
                break;
            } else {
                int[] act = acts.get(at);
                done++;
                if (act[0] == 2) {
                    answer = 1;
                } else if (act[0] == 0) {
                    heaps[act[1]]++;
                    at = act[2];
                } else if (heaps[act[1]] > 0) {
                    heaps[act[1]]--;
                    at = act[2];
                } else {
                    at = act[3];
                }
            }
        }
        row = new ArrayList<>();
        for (long heap : heaps) {
            row.add(big(heap));
        }
        row.add(big(done));
        return answer;
    }

    private static boolean areHeaps(long[] heaps) {
        for (long heap : heaps) {
            if (!within(heap, 0, 1000)) {
                return false;
            }
        }
        return true;
    }

    /** The i-th prime, 2 being the 0-th. */
    private static long prime(int i) {
        BigInteger p = BigInteger.TWO;
        for (int j = 0; j < i; j++) {
            p = p.nextProbablePrime();
        }
        return p.longValueExact();
    }

    private static long goOf(int k) {
        return prime(4 + 2 * k);
    }

    private static long waitOf(int k) {
        return prime(5 + 2 * k);
    }

    long made() {
        if (acts.isEmpty()) {
            return NONE;
        }
        list();
        for (int k = 0; k < acts.size(); k++) {
            int[] act = acts.get(k);
            if (act[0] == 0) {
                fraction(waitOf(act[2]) * prime(act[1]), goOf(k));
            } else if (act[0] == 1) {
                fraction(waitOf(act[2]), goOf(k) * prime(act[1]));
                fraction(waitOf(act[3]), goOf(k));
            } else {
                fraction(1, goOf(k));
            }
        }
        for (int k = 0; k < acts.size(); k++) {
            fraction(goOf(k), waitOf(k));
        }
        return list.size();
    }

    long begins(int a, int b, int c, int d) {
        if (!areHeaps(new long[] {a, b, c, d})) {
            throw new IllegalArgumentException();
        }
        BigInteger x = big(11).multiply(big(2).pow(a)).multiply(big(3).pow(b));
        x = x.multiply(big(5).pow(c)).multiply(big(7).pow(d));
        if (!isNumber(x)) {
            throw new ArithmeticException();
        }
        return x.longValueExact();
    }

    long law(int w0, int w1, int w2, int w3, int w) {
        if (kind != 2) {
            return SPENT;
        }
        int[] weights = {w0, w1, w2, w3, w};
        for (int i = 0; i < list.size(); i++) {
            BigInteger p = list.get(i)[0];
            BigInteger q = list.get(i)[1];
            if (fit(q) == i && !weightOf(p.longValueExact(), weights).equals(weightOf(q.longValueExact(), weights))) {
                return i;
            }
        }
        return NONE;
    }

    private static BigInteger weightOf(long x, int[] weights) {
        BigInteger sum = BigInteger.ZERO;
        long left = x;
        for (long f = 2; left > 1; f++) {
            if (f * f > left) {
                f = left;
            }
            while (left % f == 0) {
                left /= f;
                sum = sum.add(big(weights[f == 2 ? 0 : f == 3 ? 1 : f == 5 ? 2 : f == 7 ? 3 : 4]));
            }
        }
        return sum;
    }

    long row(int i) {
        if (!within(i, 0, row.size() - 1)) {
            throw new NoSuchElementException();
        }
        return row.get(i).longValueExact();
    }
}
