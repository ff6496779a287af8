import java.util.Arrays;
import java.util.List;

/** All FACTORINGS of a MONIC polynomial, each MONIC one tried as the last factor: for degrees that Naive is too slow for. */
final class RightFactors {
    private final Naive naive;

    RightFactors(Naive naive) {
        this.naive = naive;
    }

    /** Rows of NUMBERS from the left, each with the told ones at its end. */
    void all(int[] f, int[] behind, List<int[]> found) {
        int n = Naive.deg(f);
        if (n == 0) {
            found.add(behind);
            return;
        }
        for (int d = 1; d <= n; d++) {
            for (int low = 0; low < naive.many(d); low++) {
                int[] g = naive.monicOf(d, low);
                int[] quotient = quotient(f, g);
                if (quotient != null && isUndivided(g)) {
                    int[] row = new int[behind.length + 1];
                    row[0] = naive.number(g);
                    System.arraycopy(behind, 0, row, 1, behind.length);
                    all(quotient, row, found);
                }
            }
        }
    }

    private boolean isUndivided(int[] g) {
        for (int d = 1; d < Naive.deg(g); d++) {
            for (int low = 0; low < naive.many(d); low++) {
                if (quotient(g, naive.monicOf(d, low)) != null) {
                    return false;
                }
            }
        }
        return true;
    }

    /** By a MONIC one from the right; null, if there is a rest. */
    private int[] quotient(int[] f, int[] g) {
        int n = g.length - 1;
        int steps = f.length - g.length;
        int[][] passed = new int[steps + 1][];
        for (int k = 0; k <= steps; k++) {
            passed[k] = k == 0 ? g : letterTimes(passed[k - 1]);
        }
        int[] left = f.clone();
        int[] quotient = new int[steps + 1];
        for (int k = steps; k >= 0; k--) {
            quotient[k] = left[n + k];
            for (int j = 0; j <= n + k && quotient[k] != 0; j++) {
                left[j] ^= naive.mul(quotient[k], passed[k][j]);
            }
        }
        return Arrays.stream(left).allMatch(number -> number == 0) ? quotient : null;
    }

    private int[] letterTimes(int[] g) {
        int[] whole = new int[g.length + 1];
        for (int j = 0; j < g.length; j++) {
            whole[j] ^= naive.d(g[j]);
            whole[j + 1] ^= naive.t(g[j]);
        }
        return whole;
    }
}
