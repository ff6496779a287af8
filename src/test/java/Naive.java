import java.util.ArrayList;
import java.util.Arrays;
import java.util.List;

/**
 * What the document tells, worked out as it says it and with no thought of speed: a polynomial is a row without zeros
 * at its end.
 */
final class Naive {
    final int m;
    final int p;
    final int s;
    final int c;
    final int size;
    final int round;
    private final int[] turned;
    private final int[] inverse;

    Naive(int m, int p, int s, int c) {
        this.m = m;
        this.p = p;
        this.s = s;
        this.c = c;
        this.size = 1 << m;
        int r = 1;
        for (int g = 1; s > 0 && g <= m; g++) {
            if (m % g == 0 && s % g == 0) {
                r = m / g;
            }
        }
        this.round = r;
        this.turned = new int[size];
        this.inverse = new int[size];
        for (int a = 0; a < size; a++) {
            turned[a] = turnedOnce(a);
            for (int b = 1; b < size; b++) {
                inverse[a] = mul(a, b) == 1 ? b : inverse[a];
            }
        }
    }

    String script() {
        return "field " + m + " " + p + ";turn " + s + ";slope " + c + ";";
    }

    // Numbers

    int mul(int a, int b) {
        int whole = 0;
        for (int k = 0; k < m; k++) {
            if ((b >> k & 1) == 1) {
                whole ^= a << k;
            }
        }
        for (int k = 2 * m; k >= m; k--) {
            if ((whole >> k & 1) == 1) {
                whole ^= p << (k - m);
            }
        }
        return whole;
    }

    int inv(int a) {
        return inverse[a];
    }

    private int turnedOnce(int a) {
        int whole = 1;
        for (int k = 0; k < 1 << s; k++) {
            whole = mul(whole, a);
        }
        return whole;
    }

    int t(int a) {
        return turned[a];
    }

    int t(int a, int times) {
        int turned = a;
        for (int k = 0; k < times; k++) {
            turned = t(turned);
        }
        return turned;
    }

    int d(int a) {
        return mul(c, t(a) ^ a);
    }

    // Polynomials

    static int[] trim(int[] f) {
        int n = f.length;
        while (n > 0 && f[n - 1] == 0) {
            n--;
        }
        return Arrays.copyOf(f, n);
    }

    static int deg(int[] f) {
        return trim(f).length - 1;
    }

    static int[] add(int[] f, int[] g) {
        int[] sum = Arrays.copyOf(f, Math.max(f.length, g.length));
        for (int k = 0; k < g.length; k++) {
            sum[k] ^= g[k];
        }
        return trim(sum);
    }

    /** x^k a, by x a = t(a) x + d(a). */
    int[] past(int k, int a) {
        if (k == 0) {
            return new int[] {a};
        }
        int[] one = past(k - 1, t(a));
        int[] other = past(k - 1, d(a));
        int[] sum = new int[k + 1];
        for (int j = 0; j < one.length; j++) {
            sum[j + 1] ^= one[j];
            sum[j] ^= other[j];
        }
        return sum;
    }

    int[] times(int[] f, int[] g) {
        int[] whole = new int[f.length + g.length + 1];
        for (int i = 0; i < f.length; i++) {
            for (int j = 0; j < g.length; j++) {
                if (f[i] == 0 || g[j] == 0) {
                    continue;
                }
                int[] past = past(i, g[j]);
                for (int k = 0; k < past.length; k++) {
                    whole[j + k] ^= mul(f[i], past[k]);
                }
            }
        }
        return trim(whole);
    }

    /** The quotient and the rest by trying each number of the quotient. */
    int[][] divide(boolean left, int[] f, int[] g) {
        int[] rest = trim(f);
        int[] quotient = new int[Math.max(f.length, 1)];
        while (deg(rest) >= deg(g)) {
            int before = deg(rest);
            int k = before - deg(g);
            for (int a = 1; a < size; a++) {
                int[] single = new int[k + 1];
                single[k] = a;
                int[] tried = add(rest, left ? times(g, single) : times(single, g));
                if (deg(tried) < before) {
                    rest = tried;
                    quotient[k] = a;
                    break;
                }
            }
        }
        return new int[][] {trim(quotient), trim(rest)};
    }

    boolean divides(boolean left, int[] g, int[] f) {
        return divide(left, f, g)[1].length == 0;
    }

    int[] monic(boolean left, int[] f) {
        for (int a = 1; a < size; a++) {
            int[] by = left ? times(f, new int[] {a}) : times(new int[] {a}, f);
            if (by.length > 0 && by[by.length - 1] == 1) {
                return by;
            }
        }
        return f;
    }

    int[] monicOf(int n, int low) {
        int[] f = new int[n + 1];
        for (int j = 0; j < n; j++) {
            f[j] = low >> (m * j) & (size - 1);
        }
        f[n] = 1;
        return f;
    }

    int many(int n) {
        return 1 << (m * n);
    }

    int number(int[] f) {
        int sum = 0;
        for (int j = f.length - 1; j >= 0; j--) {
            sum = sum * size + f[j];
        }
        return sum;
    }

    /** Tries all MONIC ones from the highest degree down. */
    int[] common(boolean left, int[] f, int[] g) {
        if (f.length == 0 && g.length == 0) {
            return f;
        }
        int highest = f.length == 0 ? deg(g) : g.length == 0 ? deg(f) : Math.min(deg(f), deg(g));
        for (int n = highest; n > 0; n--) {
            for (int low = 0; low < many(n); low++) {
                int[] h = monicOf(n, low);
                if (divides(left, h, f) && divides(left, h, g)) {
                    return h;
                }
            }
        }
        return new int[] {1};
    }

    /** Tries all MONIC products of the longer one from its degree up. */
    int[] multiple(boolean left, int[] f, int[] g) {
        if (f.length == 0 || g.length == 0) {
            return new int[0];
        }
        for (int n = 0;; n++) {
            for (int low = 0; low < many(n); low++) {
                int[] by = monicOf(n, low);
                int[] whole = monic(left, left ? times(f, by) : times(by, f));
                if (divides(left, g, whole)) {
                    return whole;
                }
            }
        }
    }

    // Values

    int value(int[] f, int a) {
        int[] rest = divide(false, f, new int[] {a, 1})[1];
        return rest.length == 0 ? 0 : rest[0];
    }

    int applied(int[] f, int a, int b) {
        int sum = 0;
        for (int k = 0; k < f.length; k++) {
            int reached = b;
            for (int j = 0; j < k; j++) {
                reached = mul(t(reached), a) ^ d(reached);
            }
            sum ^= mul(reached, f[k]);
        }
        return sum;
    }

    int kin(int a, int b) {
        for (int by = 1; by < size; by++) {
            if (mul(mul(t(by), a) ^ d(by), inv(by)) == b) {
                return by;
            }
        }
        return -1;
    }

    int classes() {
        int count = 0;
        for (int a = 0; a < size; a++) {
            boolean first = true;
            for (int b = 0; b < a; b++) {
                first &= kin(b, a) < 0;
            }
            count += first ? 1 : 0;
        }
        return count;
    }

    int[] least(int[] places) {
        for (int n = 0;; n++) {
            for (int low = 0; low < many(n); low++) {
                int[] f = monicOf(n, low);
                boolean all = true;
                for (int a : places) {
                    all &= value(f, a) == 0;
                }
                if (all) {
                    return f;
                }
            }
        }
    }

    // Divisors

    List<Integer> divisors(int[] f, int n) {
        List<Integer> found = new ArrayList<>();
        for (int low = 0; low < many(n); low++) {
            int[] g = monicOf(n, low);
            if (divides(false, g, f)) {
                found.add(number(g));
            }
        }
        return found;
    }

    private List<int[]> undivided(int most) {
        List<int[]> found = new ArrayList<>();
        for (int n = 1; n <= most; n++) {
            for (int low = 0; low < many(n); low++) {
                int[] g = monicOf(n, low);
                boolean alone = true;
                for (int[] smaller : found) {
                    alone &= deg(smaller) == n || !divides(false, smaller, g);
                }
                if (alone) {
                    found.add(g);
                }
            }
        }
        return found;
    }

    /** Rows of NUMBERS from the left, of all products of those that none divides: those that are f, in their order. */
    List<int[]> factorings(int[] f) {
        int[] whole = monic(false, f);
        List<int[]> found = new ArrayList<>();
        build(undivided(deg(whole)), whole, new int[] {1}, new int[0], found);
        found.sort((a, b) -> {
            for (int k = 1; k <= Math.min(a.length, b.length); k++) {
                if (a[a.length - k] != b[b.length - k]) {
                    return Integer.compare(a[a.length - k], b[b.length - k]);
                }
            }
            return 0;
        });
        return found;
    }

    private void build(List<int[]> all, int[] whole, int[] built, int[] row, List<int[]> found) {
        if (deg(built) == deg(whole)) {
            if (Arrays.equals(built, whole)) {
                found.add(row);
            }
            return;
        }
        for (int[] next : all) {
            if (deg(built) + deg(next) <= deg(whole)) {
                int[] longer = Arrays.copyOf(row, row.length + 1);
                longer[row.length] = number(next);
                build(all, whole, times(built, next), longer, found);
            }
        }
    }

    boolean like(int[] f, int[] g) {
        int[] one = monic(false, f);
        int[] other = monic(false, g);
        int n = deg(one);
        if (deg(other) != n) {
            return false;
        }
        if (n == 0) {
            return true;
        }
        for (int code = 1; code < many(n); code++) {
            int[] h = new int[n];
            for (int j = 0; j < n; j++) {
                h[j] = code >> (m * j) & (size - 1);
            }
            h = trim(h);
            if (deg(common(false, h, other)) != 0) {
                continue;
            }
            int[] multiple = multiple(false, h, other);
            for (int a = 1; a < size; a++) {
                if (Arrays.equals(times(new int[] {a}, multiple), times(one, h))) {
                    return true;
                }
            }
        }
        return false;
    }

    /** Written in y by dividing by y again and again; the determinant by all ways to take one of each row and column. */
    int[] norm(int[] f) {
        List<Integer> inY = new ArrayList<>();
        int[] left = trim(f);
        while (left.length > 0) {
            int[][] by = divide(false, left, new int[] {c, 1});
            inY.add(by[1].length == 0 ? 0 : by[1][0]);
            left = by[0];
        }
        int[][][] cells = new int[round][round][20];
        for (int j = 0; j < round; j++) {
            for (int k = 0; k < inY.size(); k++) {
                int power = k + j;
                cells[j][power % round][power / round] ^= t(inY.get(k), j);
            }
        }
        int[] sum = new int[80];
        addWays(cells, 0, 0, new int[] {1}, sum);
        return trim(sum);
    }

    private void addWays(int[][][] cells, int row, int used, int[] built, int[] sum) {
        if (row == round) {
            for (int k = 0; k < built.length; k++) {
                sum[k] ^= built[k];
            }
            return;
        }
        for (int k = 0; k < round; k++) {
            if ((used >> k & 1) == 0) {
                int[] longer = new int[built.length + 20];
                for (int i = 0; i < built.length; i++) {
                    for (int j = 0; j < 20; j++) {
                        longer[i + j] ^= mul(built[i], cells[row][k][j]);
                    }
                }
                addWays(cells, row + 1, used | 1 << k, trim(longer), sum);
            }
        }
    }

    // Words

    /** How many sums there are is 2 to the RANK. */
    static int rank(int... row) {
        boolean[] sums = new boolean[256];
        sums[0] = true;
        int count = 1;
        for (int code = 0; code < 1 << row.length; code++) {
            int sum = 0;
            for (int k = 0; k < row.length; k++) {
                sum ^= (code >> k & 1) == 1 ? row[k] : 0;
            }
            if (!sums[sum]) {
                sums[sum] = true;
                count++;
            }
        }
        return Integer.numberOfTrailingZeros(count);
    }

    int[] polynomialOf(int code, int k) {
        int[] f = new int[k];
        for (int j = 0; j < k; j++) {
            f[j] = code >> (m * j) & (size - 1);
        }
        return trim(f);
    }

    int weight(int[] g, int n) {
        int least = n;
        for (int code = 1; code < many(n - deg(g)); code++) {
            int weight = 0;
            for (int number : times(polynomialOf(code, n - deg(g)), g)) {
                weight += number != 0 ? 1 : 0;
            }
            least = Math.min(least, weight);
        }
        return least;
    }

    int[] word(int[] f, int[] points) {
        int[] row = new int[points.length];
        for (int k = 0; k < points.length; k++) {
            row[k] = applied(f, 1, points[k]);
        }
        return row;
    }

    int distance(int[] points, int k) {
        int least = 99;
        for (int code = 1; code < many(k); code++) {
            least = Math.min(least, rank(word(polynomialOf(code, k), points)));
        }
        return least;
    }

    /** The polynomials that are near enough to the row. */
    List<int[]> near(int[] points, int[] told, int k) {
        List<int[]> found = new ArrayList<>();
        for (int code = 0; code < many(k); code++) {
            int[] row = word(polynomialOf(code, k), points);
            for (int j = 0; j < row.length; j++) {
                row[j] ^= told[j];
            }
            if (rank(row) <= (points.length - k) / 2) {
                found.add(polynomialOf(code, k));
            }
        }
        return found;
    }

    /** The numbers c1, c2, .. in the order that the document asks for. */
    int[] register(int[] row) {
        for (int length = 0;; length++) {
            for (int code = 0; code < many(length); code++) {
                int[] taps = new int[length];
                for (int i = 0; i < length; i++) {
                    taps[i] = code >> (m * (length - 1 - i)) & (size - 1);
                }
                if (makes(row, taps)) {
                    return taps;
                }
            }
        }
    }

    private boolean makes(int[] row, int[] taps) {
        for (int j = taps.length; j < row.length; j++) {
            int sum = 0;
            for (int i = 1; i <= taps.length; i++) {
                sum ^= mul(taps[i - 1], t(row[j - i], i));
            }
            if (sum != row[j]) {
                return false;
            }
        }
        return true;
    }
}
