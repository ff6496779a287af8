import java.util.ArrayList;
import java.util.Arrays;
import java.util.List;

/**
 * The document's Terms once more, written behind the class and Naive, by other ways than the class where there are some:
 * MULTIPLES by sums without carry, NORMS by products and divisions by y, taps one by one, much by looking among all.
 * A polynomial is a row without a 0 at its end.
 */
final class PlainRing {
    final int m;
    final int p;
    final int s;
    final int c;
    final int size;
    final int round;
    private final int[][] products;
    private final int[] turns;
    private final int[] slopes;

    PlainRing(int m, int p, int s, int c) {
        this.m = m;
        this.p = p;
        this.s = s;
        this.c = c;
        size = 1 << m;
        round = s == 0 ? 1 : m / greatestCommon(m, s);
        products = new int[size][size];
        turns = new int[size];
        slopes = new int[size];
        for (int a = 0; a < size; a++) {
            for (int b = 0; b < size; b++) {
                products[a][b] = productOf(a, b);
            }
        }
        for (int a = 0; a < size; a++) {
            int power = 1;
            for (int k = 0; k < 1 << s; k++) {
                power = products[power][a];
            }
            turns[a] = power;
            slopes[a] = products[c][power ^ a];
        }
    }

    private static int greatestCommon(int a, int b) {
        for (int n = a; n > 1; n--) {
            if (a % n == 0 && b % n == 0) {
                return n;
            }
        }
        return 1;
    }

    /** The whole product first, its rest by P then. */
    private int productOf(int a, int b) {
        int whole = 0;
        for (int k = 0; k < m; k++) {
            for (int j = 0; j < m; j++) {
                whole ^= (a >> k & b >> j & 1) << (k + j);
            }
        }
        for (int k = 2 * m; k >= m; k--) {
            if ((whole >> k & 1) == 1) {
                whole ^= p << (k - m);
            }
        }
        return whole;
    }

    boolean has(int a) {
        return a >= 0 && a < size;
    }

    int mul(int a, int b) {
        return products[a][b];
    }

    int over(int a, int b) {
        for (int q = 0; q < size; q++) {
            if (products[q][b] == a) {
                return q;
            }
        }
        throw new IllegalStateException("no quotient");
    }

    int t(int a, int k) {
        int turned = a;
        for (int n = 0; n < k; n++) {
            turned = turns[turned];
        }
        return turned;
    }

    int d(int a) {
        return slopes[a];
    }

    boolean isFew(int count) {
        long all = 1;
        for (int k = 0; k < count && all <= 4096; k++) {
            all *= size;
        }
        return all <= 4096;
    }

    // Polynomials

    static int degree(int[] f) {
        return f.length - 1;
    }

    static int[] trimmed(int... f) {
        int length = f.length;
        while (length > 0 && f[length - 1] == 0) {
            length--;
        }
        return Arrays.copyOf(f, length);
    }

    static int[] letter(int number, int k) {
        int[] f = new int[k + 1];
        f[k] = number;
        return trimmed(f);
    }

    static int[] sum(int[] f, int[] g) {
        int[] both = Arrays.copyOf(f, Math.max(f.length, g.length));
        for (int j = 0; j < g.length; j++) {
            both[j] ^= g[j];
        }
        return trimmed(both);
    }

    int[] product(int[] f, int[] g) {
        int[] whole = new int[0];
        int[] passed = g;
        for (int number : f) {
            int[] part = passed.clone();
            int[] next = new int[passed.length + 1];
            for (int j = 0; j < passed.length; j++) {
                part[j] = products[number][passed[j]];
                next[j + 1] ^= turns[passed[j]];
                next[j] ^= slopes[passed[j]];
            }
            whole = sum(whole, part);
            passed = next;
        }
        return whole;
    }

    int[] product(boolean left, int[] part, int[] rest) {
        return left ? product(rest, part) : product(part, rest);
    }

    /** q and r; left: f = g q + r. */
    int[][] divided(boolean left, int[] f, int[] g) {
        int[] q = new int[0];
        int[] r = f;
        while (r.length >= g.length) {
            int k = r.length - g.length;
            int head = left ? g[g.length - 1] : t(g[g.length - 1], k);
            int number = over(r[r.length - 1], head);
            if (left) {
                number = turnedFrom(number, degree(g));
            }
            int[] step = letter(number, k);
            q = sum(q, step);
            r = sum(r, product(left, step, g));
        }
        return new int[][] {q, r};
    }

    private int turnedFrom(int wanted, int k) {
        for (int a = 0; a < size; a++) {
            if (t(a, k) == wanted) {
                return a;
            }
        }
        throw new IllegalStateException("none is turned so");
    }

    int monicNumber(boolean left, int[] f) {
        for (int number = 1; number < size; number++) {
            int[] made = product(left, new int[] {number}, f);
            if (made[made.length - 1] == 1) {
                return number;
            }
        }
        throw new IllegalStateException("no number makes it MONIC");
    }

    int[] monic(boolean left, int[] f) {
        return f.length == 0 ? f : product(left, new int[] {monicNumber(left, f)}, f);
    }

    /** The part, u, v. */
    int[][] common(boolean left, int[] f, int[] g) {
        int[][] one = {f, {1}, {}};
        int[][] other = {g, {}, {1}};
        while (other[0].length > 0) {
            int[] q = divided(left, one[0], other[0])[0];
            int[][] behind = new int[3][];
            for (int k = 0; k < 3; k++) {
                behind[k] = sum(one[k], product(left, q, other[k]));
            }
            one = other;
            other = behind;
        }
        if (one[0].length == 0) {
            return new int[3][0];
        }
        int[] number = {monicNumber(left, one[0])};
        for (int k = 0; k < 3; k++) {
            one[k] = product(left, number, one[k]);
        }
        return one;
    }

    /** The first q that leaves no rest in q f by g, of all sums of 2^e x^k as k rises. */
    int[] multiple(boolean left, int[] f, int[] g) {
        if (f.length == 0 || g.length == 0) {
            return new int[0];
        }
        List<int[][]> known = new ArrayList<>();
        for (int k = 0; k < g.length; k++) {
            for (int e = 0; e < m; e++) {
                int[] q = letter(1 << e, k);
                int[] r = divided(left, product(left, q, f), g)[1];
                for (int[][] one : known) {
                    if (hasBit(r, highestBit(one[1]))) {
                        q = sum(q, one[0]);
                        r = sum(r, one[1]);
                    }
                }
                if (r.length == 0) {
                    return monic(left, product(left, q, f));
                }
                known.add(new int[][] {q, r});
            }
        }
        throw new IllegalStateException("no MULTIPLE");
    }

    private static int highestBit(int[] r) {
        return 8 * r.length - 8 + 31 - Integer.numberOfLeadingZeros(r[r.length - 1]);
    }

    private static boolean hasBit(int[] r, int bit) {
        return bit / 8 < r.length && (r[bit / 8] >> bit % 8 & 1) == 1;
    }

    int[] numbered(long number) {
        int[] f = new int[17];
        long left = number;
        for (int j = 0; j < f.length; j++) {
            f[j] = (int) (left % size);
            left /= size;
        }
        return trimmed(f);
    }

    int number(int[] f) {
        int number = 0;
        for (int j = f.length - 1; j >= 0; j--) {
            number = number * size + f[j];
        }
        return number;
    }

    int count(int n) {
        return n <= 0 ? 1 : size * count(n - 1);
    }

    // Values and places

    int value(int[] f, int a) {
        int[] r = divided(false, f, trimmed(a, 1))[1];
        return r.length == 0 ? 0 : r[0];
    }

    int applied(int[] f, int a, int b) {
        int whole = 0;
        for (int k = 0; k < f.length; k++) {
            int reached = b;
            for (int n = 0; n < k; n++) {
                reached = mul(t(reached, 1), a) ^ d(reached);
            }
            whole ^= mul(f[k], reached);
        }
        return whole;
    }

    int kinBy(int a, int by) {
        return over(mul(t(by, 1), a) ^ d(by), by);
    }

    int kin(int a, int b) {
        for (int by = 1; by < size; by++) {
            if (kinBy(a, by) == b) {
                return by;
            }
        }
        return -1;
    }

    /** A place that is no kin of a lesser one begins a CLASS. */
    int classes() {
        int classes = 0;
        for (int b = 0; b < size; b++) {
            boolean isNew = true;
            for (int a = 0; a < b && isNew; a++) {
                isNew = kin(a, b) < 0;
            }
            classes += isNew ? 1 : 0;
        }
        return classes;
    }

    int[] least(int[] places) {
        int[] f = {1};
        for (int a : places) {
            f = multiple(false, f, trimmed(a, 1));
        }
        return f;
    }

    // Divisors, factorings, likeness, norms

    boolean divides(int[] g, int[] f) {
        return g.length <= f.length && divided(false, f, g)[1].length == 0;
    }

    /** The NUMBERS of the DIVISORS of this degree. */
    List<Integer> divisors(int[] f, int n) {
        List<Integer> all = new ArrayList<>();
        for (int number = count(n); number < 2 * count(n) && n <= degree(f); number++) {
            if (divides(numbered(number), f)) {
                all.add(number);
            }
        }
        return all;
    }

    private boolean isOneFactor(int[] f) {
        for (int n = 1; n < degree(f); n++) {
            if (!divisors(f, n).isEmpty()) {
                return false;
            }
        }
        return degree(f) >= 1;
    }

    /** Of each the NUMBERS of its factors, from the left. */
    List<int[]> factorings(int[] f) {
        List<int[]> all = new ArrayList<>();
        collect(monic(false, f), new ArrayList<>(), all);
        all.sort((one, other) -> {
            for (int k = 1; k <= Math.min(one.length, other.length); k++) {
                if (one[one.length - k] != other[other.length - k]) {
                    return one[one.length - k] < other[other.length - k] ? -1 : 1;
                }
            }
            return 0;
        });
        return all;
    }

    private void collect(int[] f, List<Integer> behind, List<int[]> all) {
        if (degree(f) == 0) {
            int[] numbers = new int[behind.size()];
            for (int k = 0; k < numbers.length; k++) {
                numbers[numbers.length - 1 - k] = behind.get(k);
            }
            all.add(numbers);
            return;
        }
        List<Integer> lasts = new ArrayList<>();
        if (isOneFactor(f)) {
            lasts.add(number(f));
        }
        for (int n = degree(f) - 1; n >= 1; n--) {
            for (int number : divisors(f, n)) {
                if (isOneFactor(numbered(number))) {
                    lasts.add(number);
                }
            }
        }
        for (int last : lasts) {
            behind.add(last);
            collect(divided(false, f, numbered(last))[0], behind, all);
            behind.remove(behind.size() - 1);
        }
    }

    boolean like(int[] fTold, int[] gTold) {
        int[] f = monic(false, fTold);
        int[] g = monic(false, gTold);
        if (f.length != g.length) {
            return false;
        }
        for (int number = 1; number < count(degree(f)); number++) {
            int[] h = numbered(number);
            if (common(false, h, g)[0].length == 1
                && Arrays.equals(monic(false, product(f, h)), multiple(false, g, h))) {
                return true;
            }
        }
        return f.length == 1;
    }

    /** The rows are made by products with y, and written in y by divisions. */
    int[] norm(int[] f) {
        int[][][] rows = new int[round][round][];
        int[] row = f;
        for (int j = 0; j < round; j++) {
            int[] inY = writtenInY(row);
            for (int k = 0; k < round; k++) {
                int[] inZ = new int[17];
                for (int power = k; power < inY.length; power += round) {
                    inZ[power / round] = inY[power];
                }
                rows[j][k] = trimmed(inZ);
            }
            row = product(trimmed(c, 1), row);
        }
        return determinant(rows, 0, 0);
    }

    private int[] writtenInY(int[] f) {
        int[] inY = new int[f.length];
        int[] left = f;
        for (int k = 0; k < inY.length; k++) {
            int[][] by = divided(false, left, trimmed(c, 1));
            inY[k] = by[1].length == 0 ? 0 : by[1][0];
            left = by[0];
        }
        return inY;
    }

    /** By the first row that is left; less is plus. */
    private int[] determinant(int[][][] rows, int first, int taken) {
        if (first == rows.length) {
            return new int[] {1};
        }
        int[] whole = new int[0];
        for (int k = 0; k < rows.length; k++) {
            if ((taken >> k & 1) == 0) {
                whole = sum(whole, commonProduct(rows[first][k], determinant(rows, first + 1, taken | 1 << k)));
            }
        }
        return whole;
    }

    private int[] commonProduct(int[] f, int[] g) {
        int[] whole = new int[f.length + g.length];
        for (int j = 0; j < f.length; j++) {
            for (int k = 0; k < g.length; k++) {
                whole[j + k] ^= mul(f[j], g[k]);
            }
        }
        return trimmed(whole);
    }

    // Words

    /** So many numbers are no sum of those ahead of them. */
    static int rank(int[] word, int from, int to) {
        boolean[] sums = new boolean[256];
        sums[0] = true;
        int rank = 0;
        for (int p = from; p < to; p++) {
            if (!sums[word[p]]) {
                rank++;
                boolean[] before = sums.clone();
                for (int a = 0; a < 256; a++) {
                    sums[a] = before[a] || before[a ^ word[p]];
                }
            }
        }
        return rank;
    }

    int weight(int[] g, int n) {
        int least = n;
        for (int number = 1; number < count(n - degree(g)); number++) {
            int weight = 0;
            for (int a : product(numbered(number), g)) {
                weight += a != 0 ? 1 : 0;
            }
            least = Math.min(least, weight);
        }
        return least;
    }

    int[] word(int[] f, int[] points) {
        int[] word = new int[points.length];
        for (int k = 0; k < points.length; k++) {
            word[k] = applied(f, 1, points[k]);
        }
        return word;
    }

    int distance(int[] points, int k) {
        int least = points.length;
        for (int number = 1; number < count(k); number++) {
            least = Math.min(least, rank(word(numbered(number), points), 0, points.length));
        }
        return least;
    }

    /** Null, if there is none or more than one. */
    int[] mended(int[] points, int[] told, int k) {
        int[] only = null;
        for (int number = 0; number < count(k); number++) {
            int[] word = word(numbered(number), points);
            for (int n = 0; n < word.length; n++) {
                word[n] ^= told[n];
            }
            if (rank(word, 0, word.length) <= (points.length - k) / 2) {
                if (only != null) {
                    return null;
                }
                only = numbered(number);
            }
        }
        return only;
    }

    // Registers

    /** The taps of the shortest one: each the least with which the rest can still be told. */
    int[] register(int[] row) {
        for (int length = 0; length <= row.length; length++) {
            int[] taps = new int[length];
            if (canGoOn(row, taps, 0)) {
                for (int i = 0; i < length; i++) {
                    while (!canGoOn(row, taps, i + 1)) {
                        taps[i]++;
                    }
                }
                return taps;
            }
        }
        throw new IllegalStateException("no register");
    }

    /** Whether some taps behind the first ones that are told make the row. */
    private boolean canGoOn(int[] row, int[] taps, int told) {
        int free = taps.length - told;
        int[][] equations = new int[row.length - taps.length][free + 1];
        for (int j = taps.length; j < row.length; j++) {
            int[] equation = equations[j - taps.length];
            equation[free] = row[j];
            for (int i = 1; i <= taps.length; i++) {
                int number = t(row[j - i], i);
                if (i <= told) {
                    equation[free] ^= mul(taps[i - 1], number);
                } else {
                    equation[i - 1 - told] = number;
                }
            }
        }
        return isSolvable(equations, free);
    }

    private boolean isSolvable(int[][] equations, int free) {
        boolean[] used = new boolean[equations.length];
        for (int i = 0; i < free; i++) {
            int solver = -1;
            for (int r = 0; r < equations.length; r++) {
                solver = solver < 0 && !used[r] && equations[r][i] != 0 ? r : solver;
            }
            if (solver < 0) {
                continue;
            }
            used[solver] = true;
            for (int r = 0; r < equations.length; r++) {
                int by = r == solver ? 0 : over(equations[r][i], equations[solver][i]);
                for (int k = 0; k <= free; k++) {
                    equations[r][k] ^= mul(by, equations[solver][k]);
                }
            }
        }
        for (int r = 0; r < equations.length; r++) {
            if (!used[r] && equations[r][free] != 0) {
                return false;
            }
        }
        return true;
    }
}
