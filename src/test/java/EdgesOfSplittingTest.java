import java.util.ArrayList;
import java.util.Arrays;
import java.util.List;
import java.util.Random;

/**
 * Each sentence of the document that names an edge, of divisors, factorings, likeness and norms (promises 25 to 29). The
 * comment of a test is the sentence, or its part, that it holds.
 */
final class EdgesOfSplittingTest {
    /** For each M the greatest n of which there are 4096 (2^M)^n or less. */
    private static final int[] FEW = {0, 12, 6, 4, 3, 2, 2, 1, 1};
    private static final int[] NO_NAMES = {-1, -2, 4, 11, 12, Integer.MAX_VALUE, Integer.MIN_VALUE};
    private static final int[] FAR = {13, 14, 17, 31, 32, 64, 1 << 16, 1 << 28, 1 << 29, 1 << 30,
        (1 << 30) + 1, Integer.MAX_VALUE};

    private EdgesOfSplittingTest() {
    }

    public static void main(String[] args) {
        divisorsOfEachDegree();
        divisorsRefused();
        divisorsRise();
        factoringsOfEachDegree();
        factorsOutside();
        factoringsRefused();
        factoringsInOrder();
        factoringsOfTheMost();
        likeOfEachDegree();
        likeRefused();
        likeOfNumbers();
        normOfEachRound();
        normRefused();
        normOfNone();
        resultsStay();
        Due.close("EdgesOfSplittingTest");
    }

    private static Probe field(int m, int s, String names) {
        return Probe.field(m, s, 0, names);
    }

    /** How many (k NONE), or the NUMBER of the k-th (rising). NONE: none such. */
    private static void divisorsOfEachDegree() {
        for (int m = 1; m <= 8; m++) {
            for (int n = 0; n <= FEW[m]; n++) {
                TurnedRing ring = field(m, m - 1, "a=x^" + n + ";b=" + ((1 << m) - 1) + "*x^16;c=1;").ring;
                String about = "of degree " + n + ", M " + m;
                Due.due("x^n " + about, ring.divisors(0, n, -1), 1);
                Due.due("its NUMBER " + about, ring.divisors(0, n, 0), 1 << m * n);
                Due.due("none behind " + about, ring.divisors(0, n, 1), -1);
                Due.due("of x^16 " + about, ring.divisors(1, n, -1), 1);
                Due.due("of x^16, NUMBER " + about, ring.divisors(1, n, 0), 1 << m * n);
                Due.due("of a number " + about, ring.divisors(2, n, -1), n == 0 ? 1 : 0);
                Due.due("of a number, first " + about, ring.divisors(2, n, 0), n == 0 ? 1 : -1);
                if (n < FEW[m]) {
                    Due.due("of a higher degree than " + about, ring.divisors(0, n + 1, -1), 0);
                    Due.due("first of a higher degree than " + about, ring.divisors(0, n + 1, 0), -1);
                }
                for (int k : new int[] {-2, -3, 2, 4096, Integer.MAX_VALUE, Integer.MIN_VALUE}) {
                    Due.due(k + "-th " + about, ring.divisors(0, n, k), -1);
                }
            }
        }
    }

    /** -2: no such NAME, 0, n below 0, more than 4096 (2^M)^n. */
    private static void divisorsRefused() {
        for (int m = 1; m <= 8; m++) {
            TurnedRing ring = field(m, 0, "a=x^16+1;b=0;c=1;d=x;").ring;
            for (int k : new int[] {-2, -1, 0, 1}) {
                for (int i : NO_NAMES) {
                    Due.due("of " + i, ring.divisors(i, 1, k), -2);
                }
                Due.due("of 0, degree 0", ring.divisors(1, 0, k), -2);
                Due.due("of 0, degree 1", ring.divisors(1, 1, k), -2);
                for (int n : new int[] {-1, -2, -12, -(1 << 29), Integer.MIN_VALUE, Integer.MIN_VALUE + 1}) {
                    Due.due("of degree " + n, ring.divisors(0, n, k), -2);
                }
                Due.due("just above 4096, M " + m, ring.divisors(0, FEW[m] + 1, k), -2);
                Due.due("just above 4096, of a number, M " + m, ring.divisors(2, FEW[m] + 1, k), -2);
                for (int n : FAR) {
                    Due.due("far above 4096, M " + m + " n " + n, ring.divisors(3, n, k), -2);
                }
            }
        }
        Due.due("no NAMES", new TurnedRing().divisors(0, 0, -1), -2);
    }

    /** The NUMBER of a polynomial: its numbers, the lowest first, as digits of a number of base 2^M, the lowest first. */
    private static void divisorsRise() {
        TurnedRing ring = Probe.of("field 8 283;a=(x+1)*(x+255)*x;").ring;
        int[] due = {256, 257, 511};
        for (int k = 0; k < 3; k++) {
            Due.due("a digit of 0 to 255", ring.divisors(0, 1, k), due[k]);
        }
        TurnedRing two = Probe.of("a=x^2*(x+1)^2;").ring;
        int[] second = {4, 5, 6};
        Due.due("of degree 2", two.divisors(0, 2, -1), 3);
        for (int k = 0; k < 3; k++) {
            Due.due("of degree 2, " + k, two.divisors(0, 2, k), second[k]);
        }
        TurnedRing turned = Probe.of("field 2 7;turn 1;a=3*x^2+3;b=2;").ring;
        Due.due("it is taken MONIC", turned.divisors(0, 2, 0), 17);
        Due.due("the one of degree 0 is 1", turned.divisors(1, 0, 0), 1);
    }

    /** -2: .. a degree above 6, more than 4096 (2^M)^(degree less 1). */
    private static void factoringsOfEachDegree() {
        for (int m = 1; m <= 8; m++) {
            for (int degree = 0; degree <= 16; degree++) {
                TurnedRing ring = field(m, m - 1, "a=x^" + degree + ";b=" + ((1 << m) - 1) + "*x^" + degree + ";").ring;
                boolean told = degree <= 6 && degree - 1 <= FEW[m];
                for (int i = 0; i < 2; i++) {
                    String about = " of degree " + degree + ", M " + m;
                    Due.due("factorings" + about, ring.factorings(i), told ? 1 : -2);
                    for (int p = 0; p < degree && told; p++) {
                        Due.due("factor " + p + about, ring.factor(i, 0, p), 1 << m);
                    }
                    Due.due("factor behind the last" + about, ring.factor(i, 0, degree), told ? -1 : -2);
                    Due.due("factor of the next one" + about, ring.factor(i, 1, 0), told ? -1 : -2);
                    Due.due("factor of none" + about, ring.factor(i, -1, 0), told ? -1 : -2);
                }
            }
        }
    }

    /** The p-th factor (from 0, from the left) of the k-th one; NONE: none such. */
    private static void factorsOutside() {
        TurnedRing ring = field(2, 1, "a=x*(x+1);b=2;c=x+3;").ring;
        int[] far = {-1, -2, 7, 8, 63, Integer.MAX_VALUE, Integer.MIN_VALUE};
        Due.due("of two factors", ring.factorings(0), 2);
        Due.due("from the left", ring.factor(0, 0, 0), 5);
        Due.due("to the right", ring.factor(0, 0, 1), 4);
        Due.due("the last factoring", ring.factor(0, 1, 0), 4);
        Due.due("its last factor", ring.factor(0, 1, 1), 5);
        Due.due("behind the last factoring", ring.factor(0, 2, 0), -1);
        for (int p : new int[] {2, 3}) {
            Due.due("no factor " + p, ring.factor(0, 0, p), -1);
        }
        for (int one : far) {
            Due.due("factor " + one, ring.factor(0, 0, one), -1);
            Due.due("factoring " + one, ring.factor(0, one, 0), -1);
            Due.due("factor " + one + " of a number", ring.factor(1, 0, one), -1);
            Due.due("factor " + one + " of one", ring.factor(2, 0, one), -1);
        }
        Due.due("factorings of a number", ring.factorings(1), 1);
        Due.due("it has no factors", ring.factor(1, 0, 0), -1);
        Due.due("of degree 1", ring.factorings(2), 1);
        Due.due("it is its own factor", ring.factor(2, 0, 0), 7);
        Due.due("and no other", ring.factor(2, 0, 1), -1);
    }

    /** -2: no such NAME, 0; as for factorings(). */
    private static void factoringsRefused() {
        TurnedRing ring = field(1, 0, "a=x^7;b=0;c=x^6+x+1;d=x^16;").ring;
        for (int i : NO_NAMES) {
            Due.due("of " + i, ring.factorings(i), -2);
            Due.due("factor of " + i, ring.factor(i, 0, 0), -2);
            Due.due("no factor of " + i, ring.factor(i, -1, -1), -2);
        }
        for (int i : new int[] {0, 1, 3}) {
            Due.due("of NAME " + i, ring.factorings(i), -2);
            Due.due("factor of NAME " + i, ring.factor(i, 0, 0), -2);
            Due.due("no factor of NAME " + i, ring.factor(i, Integer.MIN_VALUE, Integer.MAX_VALUE), -2);
        }
        Due.due("of degree 6 that none divides", ring.factorings(2), 1);
        Due.due("it", ring.factor(2, 0, 0), 67);
        Due.due("no NAMES", new TurnedRing().factorings(0), -2);
        Due.due("no factor without NAMES", new TurnedRing().factor(0, 0, 0), -2);
    }

    /** As they rise by their last factor's NUMBER, then the last but one's, and so on. */
    private static void factoringsInOrder() {
        int[][] all = {{1, 0, 6}, {2, 1, 6}, {2, 0, 5}, {3, 1, 3}, {3, 2, 4}, {4, 2, 4}, {4, 3, 3}, {5, 2, 3}, {6, 3, 3}};
        for (int[] told : all) {
            int n = told[2];
            for (String f : new String[] {"x^" + n + "+1", "x^" + (n - 1) + "*(x+1)", "(x+1)^" + n, "x^2+x+1"}) {
                TurnedRing ring = field(told[0], told[1], "a=" + f + ";").ring;
                int count = ring.factorings(0);
                Due.due("some of " + f, count > 0, true);
                for (int k = 1; k < count; k++) {
                    Due.due("rising " + k + " of " + f + " M " + told[0], rises(ring, k - 1, k), true);
                }
                Due.due("none behind of " + f, ring.factor(0, count, 0), -1);
            }
        }
    }

    private static boolean rises(TurnedRing ring, int before, int behind) {
        int one = lastOf(ring, before);
        int other = lastOf(ring, behind);
        while (one >= 0 && other >= 0) {
            int by = Integer.compare(ring.factor(0, before, one), ring.factor(0, behind, other));
            if (by != 0) {
                return by < 0;
            }
            one--;
            other--;
        }
        return false;
    }

    private static int lastOf(TurnedRing ring, int k) {
        int p = 0;
        while (ring.factor(0, k, p) != -1) {
            p++;
        }
        return p - 1;
    }

    /** All factorings of the highest degrees that are told: none of the factors is divided by one of a lesser degree. */
    private static void factoringsOfTheMost() {
        Random random = new Random(25);
        int[][] fields = {{1, 0, 0, 6}, {2, 0, 0, 6}, {2, 1, 2, 6}, {3, 0, 0, 5}, {3, 1, 0, 5}, {3, 2, 5, 5}, {4, 0, 0, 4},
            {4, 1, 9, 4}, {4, 2, 3, 4}, {5, 1, 0, 3}, {6, 3, 7, 3}, {7, 1, 1, 2}, {8, 4, 0, 2}};
        for (int[] told : fields) {
            Naive naive = new Naive(told[0], Probe.MODULI[told[0]], told[1], told[2]);
            for (int k = 0; k < 10; k++) {
                int[] f = {1};
                while (Naive.deg(f) < told[3]) {
                    int n = Math.min(told[3] - Naive.deg(f), 1 + random.nextInt(2));
                    f = naive.times(f, naive.monicOf(n, random.nextInt(naive.many(n))));
                }
                factoringsOf(naive, f);
            }
        }
        for (int s = 0; s < 2; s++) {
            Naive naive = new Naive(3, 11, s, 0);
            for (int low = 32; low < 64; low += 3) {
                int[] twice = naive.times(naive.monicOf(2, low), naive.monicOf(2, low));
                factoringsOf(naive, naive.times(new int[] {1, 1}, twice));
            }
        }
    }

    private static void factoringsOf(Naive naive, int[] f) {
        List<int[]> due = new ArrayList<>();
        new RightFactors(naive).all(f, new int[0], due);
        TurnedRing ring = Probe.of(naive.script() + "a=" + AgainstNaive.written(f) + ";").ring;
        String about = "of " + Arrays.toString(f) + " in " + naive.script();
        Due.due("how many " + about, ring.factorings(0), due.size());
        for (int i = 0; i < due.size() && i < 40; i++) {
            for (int p = 0; p <= due.get(i).length; p++) {
                int want = p < due.get(i).length ? due.get(i)[p] : -1;
                Due.due("factor " + i + " " + p + " " + about, ring.factor(0, i, p), want);
            }
        }
    }

    /** 1: NAMES i, j are LIKE, 0: not; more than 4096 (2^M)^degree. */
    private static void likeOfEachDegree() {
        for (int m = 1; m <= 8; m++) {
            for (int n = 0; n <= 16; n++) {
                String names = "a=x^" + n + ";b=" + ((1 << m) - 1) + "*x^" + n + ";c=x^" + n + "+x^" + n / 2 + ";d=1;";
                TurnedRing ring = field(m, 0, names).ring;
                String about = " of degree " + n + ", M " + m;
                boolean told = n <= FEW[m];
                Due.due("it and it" + about, ring.like(0, 0), told ? 1 : -2);
                Due.due("taken MONIC" + about, ring.like(0, 1), told ? 1 : -2);
                Due.due("taken MONIC, too" + about, ring.like(1, 0), told ? 1 : -2);
                Due.due("it and another" + about, ring.like(0, 2), n == 0 ? -2 : told ? 0 : -2);
                Due.due("it and 1" + about, ring.like(0, 3), n == 0 ? 1 : told ? 0 : -2);
                Due.due("1 and it" + about, ring.like(3, 0), n == 0 ? 1 : told ? 0 : -2);
            }
        }
    }

    /** -2: no such ones, 0. */
    private static void likeRefused() {
        TurnedRing ring = field(2, 1, "a=x;b=0;c=1;d=x^7;").ring;
        for (int i : NO_NAMES) {
            Due.due("of " + i, ring.like(i, 0), -2);
            Due.due("with " + i, ring.like(0, i), -2);
            Due.due("of " + i + " and 0", ring.like(i, 1) + ring.like(1, i), -4);
        }
        for (int i = 0; i < 4; i++) {
            Due.due("0 with NAME " + i, ring.like(1, i), -2);
            Due.due("NAME " + i + " with 0", ring.like(i, 1), -2);
        }
        Due.due("of degree 7 with 1", ring.like(3, 2), -2);
        Due.due("1 with one of degree 7", ring.like(2, 3), -2);
        Due.due("no NAMES", new TurnedRing().like(0, 0), -2);
    }

    /** n 0: LIKE. And in the field of two numbers without a turn none is LIKE another. */
    private static void likeOfNumbers() {
        for (int m = 1; m <= 8; m++) {
            TurnedRing ring = field(m, m - 1, "a=1;b=" + ((1 << m) - 1) + ";").ring;
            Due.due("numbers, M " + m, ring.like(0, 1) + ring.like(1, 0) + ring.like(1, 1), 3);
        }
        Probe probe = Probe.of("a=x^12;b=x^12+1;c=x^11*(x+1);d=(x+1)*x^11;");
        for (int i = 0; i < 4; i++) {
            for (int j = 0; j < 4; j++) {
                Due.due("of degree 12 " + i + " " + j, probe.ring.like(i, j), i == j || i + j == 5 ? 1 : 0);
            }
        }
    }

    /** NORM of f, R 4 at most; a degree above 6. */
    private static void normOfEachRound() {
        for (int m = 1; m <= 8; m++) {
            for (int s = 0; s < m; s++) {
                int c = (1 << m) - 1;
                Naive naive = new Naive(m, Probe.MODULI[m], s, c);
                String names = "a=0;b=CC;c=x;d=x^6;e=CC*x^6+x^3+1;f=x^7;g=x^16;h=(x+CC)^6;".replace("CC", "" + c);
                Probe probe = Probe.field(m, s, c, names);
                boolean told = probe.ring.count(4) <= 4;
                for (int i = 0; i < 8; i++) {
                    String about = "norm " + i + " of M " + m + ", S " + s;
                    if (!told || i == 5 || i == 6) {
                        Due.due(about, probe.ring.norm(i), -2);
                        continue;
                    }
                    int[] due = naive.norm(probe.numbersOfName(i));
                    Due.due(about, probe.ring.norm(i), Naive.deg(due));
                    Due.due(about + " degree", probe.ring.resultDegree(0), probe.ring.degree(i));
                    for (int j = 0; j < due.length; j++) {
                        Due.due(about + " x^" + j, probe.ring.result(0, j), due[j]);
                    }
                }
            }
        }
    }

    /** -2: no such NAME, ROUND above 4, a degree above 6. */
    private static void normRefused() {
        for (int s = 0; s < 8; s++) {
            TurnedRing ring = field(8, s, "a=x;b=x^6;c=x^7;d=1;").ring;
            boolean told = ring.count(4) <= 4;
            Due.due("ROUND " + ring.count(4), ring.norm(0), told ? 1 : -2);
            Due.due("a number, ROUND " + ring.count(4), ring.norm(3), told ? 0 : -2);
            Due.due("degree 6, ROUND " + ring.count(4), ring.norm(1), told ? 6 : -2);
            Due.due("degree 7, ROUND " + ring.count(4), ring.norm(2), -2);
            for (int i : NO_NAMES) {
                Due.due("of " + i, ring.norm(i), -2);
            }
        }
        Due.due("no NAMES", new TurnedRing().norm(0), -2);
    }

    /** NORM of 0 is 0, of 1 it is 1, of y^R it is z taken R times. */
    private static void normOfNone() {
        for (int[] told : new int[][] {{1, 0, 1}, {2, 1, 3}, {3, 2, 6}, {4, 3, 9}, {6, 2, 50}, {8, 2, 200}, {8, 4, 255}}) {
            Probe probe = Probe.field(told[0], told[1], told[2], "a=0;b=1;c=x+" + told[2] + ";");
            Due.due("NORM of 0", probe.ring.norm(0), -1);
            Due.due("it", probe.result(0), "");
            Due.due("NORM of 1", probe.ring.norm(1), 0);
            Due.due("it", probe.result(0), "1");
            Due.due("NORM of y", probe.ring.norm(2), 1);
            Due.due("it", probe.result(0), "0 1");
        }
    }

    /** What is refused, and what only tells, leaves RESULTS as they were. */
    private static void resultsStay() {
        Probe probe = field(2, 1, "a=x^2+1;b=0;c=x^7;d=x*(x+2);");
        probe.ring.common(0, 3, 0);
        probe.ring.divides(2, 0, 0);
        String before = probe.all();
        probe.ring.divisors(0, 1, 1);
        probe.ring.divisors(1, 1, 1);
        probe.ring.factorings(0);
        probe.ring.factorings(2);
        probe.ring.factor(0, 1, 1);
        probe.ring.like(0, 3);
        probe.ring.like(2, 2);
        Due.due("told", probe.all(), before);
        Due.due("NORM of degree 7", probe.ring.norm(2), -2);
        Due.due("NORM of none", probe.ring.norm(4), -2);
        Due.due("refused", probe.all(), before);
    }
}
