/** Promises 25 to 29: divisors, factorings, likeness, norms. */
final class SplittingTest {
    private static final String FOUR = "field 2 7;turn 1;";
    private static final int[] ODD = {-1, 12, 99, Integer.MAX_VALUE, Integer.MIN_VALUE};

    private SplittingTest() {
    }

    public static void main(String[] args) {
        divisors();
        limitsOfDivisors();
        factorings();
        limitsOfFactorings();
        likes();
        norms();
        Due.close("SplittingTest");
    }

    private static void divisors() {
        Probe probe = Probe.of(FOUR + "a=x^2+1;b=3*x^2+3;c=0;d=2;e=x*(x+1);");
        for (int i = 0; i < 2; i++) {
            Due.due("divisors 1 of " + i, probe.ring.divisors(i, 1, -1), 3);
            for (int k = 0; k < 3; k++) {
                Due.due("divisor 1 of " + i + " " + k, probe.ring.divisors(i, 1, k), 5 + k);
            }
            Due.due("divisor of degree 2", probe.ring.divisors(i, 2, 0), 17);
            Due.due("divisor of degree 0", probe.ring.divisors(i, 0, 0), 1);
            Due.due("divisors of degree 0", probe.ring.divisors(i, 0, -1), 1);
            Due.due("divisors of degree 3", probe.ring.divisors(i, 3, -1), 0);
            Due.due("divisor of degree 3", probe.ring.divisors(i, 3, 0), -1);
            for (int k : new int[] {3, 4, -2, Integer.MAX_VALUE, Integer.MIN_VALUE}) {
                Due.due("divisor 1 of " + i + " " + k, probe.ring.divisors(i, 1, k), -1);
            }
        }
        Due.due("of 0", probe.ring.divisors(2, 1, -1), -2);
        Due.due("of 0, k-th", probe.ring.divisors(2, 0, 0), -2);
        Due.due("of a number", probe.ring.divisors(3, 0, 0), 1);
        Due.due("of a number, degree 1", probe.ring.divisors(3, 1, -1), 0);
        Due.due("from the right alone", probe.ring.divisors(4, 1, 1), 5);
        Due.due("n -1", probe.ring.divisors(0, -1, -1), -2);
        Due.due("n least", probe.ring.divisors(0, Integer.MIN_VALUE, -1), -2);
        for (int odd : ODD) {
            Due.due("of " + odd, probe.ring.divisors(odd, 1, -1), -2);
        }
    }

    private static void limitsOfDivisors() {
        int[][] limits = {{1, 3, 12}, {2, 7, 6}, {3, 11, 4}, {4, 19, 3}, {5, 37, 2}, {6, 67, 2}, {7, 131, 1}, {8, 283, 1}};
        for (int[] row : limits) {
            TurnedRing ring = Probe.of("field " + row[0] + " " + row[1] + ";a=x^16;").ring;
            Due.due("most of " + row[0], ring.divisors(0, row[2], -1), 1);
            Due.due("its number", ring.divisors(0, row[2], 0), 1 << row[0] * row[2]);
            for (int n : new int[] {row[2] + 1, 13, 17, 32, 64, 1 << 28, 1 << 29, 1 << 30, 1 << 31, Integer.MAX_VALUE}) {
                Due.due("above the most of " + row[0] + ": " + n, ring.divisors(0, n, -1), -2);
                Due.due("k-th above the most of " + row[0] + ": " + n, ring.divisors(0, n, 0), -2);
            }
        }
    }

    private static void factorings() {
        Probe probe = Probe.of(FOUR + "a=x^2+1;b=3;c=0;d=2*x^2+2;e=x^3+x;f=x;");
        int[][] due = {{5, 5}, {7, 6}, {6, 7}};
        for (int i = 0; i < 4; i += 3) {
            Due.due("factorings " + i, probe.ring.factorings(i), 3);
            for (int k = 0; k < 3; k++) {
                for (int p = 0; p < 2; p++) {
                    Due.due("factor " + i + " " + k + " " + p, probe.ring.factor(i, k, p), due[k][p]);
                }
                Due.due("factor behind", probe.ring.factor(i, k, 2), -1);
                Due.due("factor ahead", probe.ring.factor(i, k, -1), -1);
                Due.due("factor greatest", probe.ring.factor(i, k, Integer.MAX_VALUE), -1);
                Due.due("factor least", probe.ring.factor(i, k, Integer.MIN_VALUE), -1);
            }
            for (int k : new int[] {3, 4, -1, -2, Integer.MAX_VALUE, Integer.MIN_VALUE}) {
                Due.due("factor of " + k, probe.ring.factor(i, k, 0), -1);
            }
        }
        Due.due("factorings of a number", probe.ring.factorings(1), 1);
        Due.due("factor of a number", probe.ring.factor(1, 0, 0), -1);
        Due.due("factor of none of a number", probe.ring.factor(1, 1, 0), -1);
        Due.due("factorings of 0", probe.ring.factorings(2), -2);
        Due.due("factor of 0", probe.ring.factor(2, 0, 0), -2);
        Due.due("factor of 0 that is none", probe.ring.factor(2, -1, -1), -2);
        Due.due("factorings of x", probe.ring.factorings(5), 1);
        Due.due("factor of x", probe.ring.factor(5, 0, 0), 4);
        all(probe, 4, new Naive(2, 7, 1, 0));
        for (int odd : ODD) {
            Due.due("factorings of " + odd, probe.ring.factorings(odd), -2);
            Due.due("factor of name " + odd, probe.ring.factor(odd, 0, 0), -2);
        }
        for (int p = 64; p < 128; p += 5) {
            Naive naive = new Naive(1, 3, 0, 0);
            StringBuilder text = new StringBuilder("a=0");
            for (int j = 0; j < 7; j++) {
                text.append((p >> j & 1) == 1 ? "+x^" + j : "");
            }
            all(Probe.of(text + ";"), 0, naive);
        }
    }

    private static void all(Probe probe, int i, Naive naive) {
        java.util.List<int[]> due = naive.factorings(probe.numbersOfName(i));
        Due.due("factorings of " + probe.named(i), probe.ring.factorings(i), due.size());
        for (int k = 0; k < due.size(); k++) {
            for (int p = 0; p < due.get(k).length; p++) {
                Due.due("factor " + k + " " + p + " of " + probe.named(i), probe.ring.factor(i, k, p), due.get(k)[p]);
            }
            Due.due("no factor of " + probe.named(i), probe.ring.factor(i, k, due.get(k).length), -1);
        }
    }

    private static void limitsOfFactorings() {
        int[][] limits = {{1, 3, 6}, {2, 7, 6}, {3, 11, 5}, {4, 19, 4}, {5, 37, 3}, {6, 67, 3}, {7, 131, 2}, {8, 283, 2}};
        for (int[] row : limits) {
            String field = "field " + row[0] + " " + row[1] + ";";
            TurnedRing ring = Probe.of(field + "a=x^" + row[2] + ";b=x^" + (row[2] + 1) + ";c=x^16;").ring;
            Due.due("factorings, most of " + row[0], ring.factorings(0), 1);
            for (int p = 0; p < row[2]; p++) {
                Due.due("factor, most of " + row[0] + " " + p, ring.factor(0, 0, p), 1 << row[0]);
            }
            Due.due("factor behind, most of " + row[0], ring.factor(0, 0, row[2]), -1);
            for (int i = 1; i < 3; i++) {
                Due.due("factorings above the most of " + row[0], ring.factorings(i), -2);
                Due.due("factor above the most of " + row[0], ring.factor(i, 0, 0), -2);
            }
        }
        TurnedRing flags = Probe.of("field 4 19;turn 1;a=x^4+1;b=7*x^4+7;").ring;
        Due.due("factorings of x^4+1", flags.factorings(0), 315);
        Due.due("factorings of 7 x^4+7", flags.factorings(1), 315);
        Due.due("the last one", flags.factor(1, 314, 3), 31);
        Due.due("none behind it", flags.factor(1, 315, 3), -1);
        TurnedRing alone = Probe.of("field 8 283;turn 4;a=x^2+x+3;").ring;
        Due.due("factoring of one", alone.factorings(0) > 0, true);
    }

    private static void likes() {
        Probe probe = Probe.of(FOUR + "a=x+1;b=x+2;c=x;d=3*x+1;e=0;f=2;g=3;h=x^2+1;i=x^2;j=x*(x+1);k=(x+2)*x;");
        int[][] due = {{0, 1, 1}, {0, 0, 1}, {0, 2, 0}, {2, 0, 0}, {3, 0, 1}, {1, 3, 1}, {5, 6, 1}, {5, 5, 1}, {5, 0, 0},
            {0, 5, 0}, {0, 7, 0}, {7, 0, 0}, {7, 7, 1}, {7, 8, 0}, {8, 8, 1}, {9, 10, 1}, {9, 8, 0}, {9, 7, 0}, {4, 0, -2},
            {0, 4, -2}, {4, 4, -2}};
        for (int[] row : due) {
            Due.due("like " + row[0] + " " + row[1], probe.ring.like(row[0], row[1]), row[2]);
        }
        for (int odd : ODD) {
            Due.due("like of " + odd, probe.ring.like(odd, 0), -2);
            Due.due("like with " + odd, probe.ring.like(0, odd), -2);
        }
        int[][] limits = {{1, 3, 12}, {2, 7, 6}, {3, 11, 4}, {4, 19, 3}, {5, 37, 2}, {6, 67, 2}, {7, 131, 1}, {8, 283, 1}};
        for (int[] row : limits) {
            String field = "field " + row[0] + " " + row[1] + ";";
            TurnedRing ring = Probe.of(field + "a=x^" + row[2] + ";b=x^" + (row[2] + 1) + ";c=x^16;d=x^" + row[2] + "+1;e=1;").ring;
            Due.due("like, most of " + row[0], ring.like(0, 0), 1);
            Due.due("not like, most of " + row[0], ring.like(0, 3), 0);
            Due.due("like above the most of " + row[0], ring.like(1, 1), -2);
            Due.due("like far above the most of " + row[0], ring.like(2, 2), -2);
            for (int i = 1; i < 3; i++) {
                Due.due("like above the most of " + row[0] + ", of another degree", ring.like(i, 0), -2);
                Due.due("like of another degree, above the most of " + row[0], ring.like(0, i), -2);
                Due.due("like of two degrees above the most of " + row[0], ring.like(i, 3 - i), -2);
                Due.due("like of a number, above the most of " + row[0], ring.like(4, i), -2);
                Due.due("like above the most of " + row[0] + ", of a number", ring.like(i, 4), -2);
            }
            Due.due("like of two degrees, none above the most of " + row[0], ring.like(0, 4), 0);
        }
    }

    private static void norms() {
        Probe probe = Probe.of("field 3 11;turn 1;slope 3;a=x+2;b=0;c=5;d=x^6+7*x;e=x^7;f=3*x^2+1;g=x+3;");
        Naive naive = new Naive(3, 11, 1, 3);
        for (int i : new int[] {0, 1, 2, 3, 5, 6}) {
            int[] due = naive.norm(probe.numbersOfName(i));
            Due.due("norm " + i, probe.ring.norm(i), Naive.deg(due));
            Due.due("norm result " + i, java.util.Arrays.toString(probe.numbersOfResult(0)), java.util.Arrays.toString(due));
        }
        norm(probe, 1, -1, "");
        norm(probe, 2, 0, "1");
        norm(probe, 6, 1, "0 1");
        String before = probe.all();
        Due.due("norm of degree 7", probe.ring.norm(4), -2);
        for (int odd : ODD) {
            Due.due("norm of " + odd, probe.ring.norm(odd), -2);
        }
        for (String field : new String[] {"field 5 37;turn 1;", "field 6 67;turn 1;", "field 8 283;turn 1;"}) {
            Due.due("norm of " + field, Probe.of(field + "a=x;").ring.norm(0), -2);
            Due.due("norm of 0 of " + field, Probe.of(field + "a=0;").ring.norm(0), -2);
        }
        Due.due("results stay", probe.all(), before);
        norm(Probe.of("field 2 7;slope 3;a=x+1;"), 0, 1, "2 1");
        norm(Probe.of("field 8 283;turn 2;a=x;"), 0, 1, "0 1");
        norm(Probe.of("field 8 283;turn 6;a=x^6;"), 0, 6, "0 0 0 0 0 0 1");
        norm(Probe.of("field 4 19;turn 3;a=x+1;"), 0, 1, "1 1");
        norm(Probe.of("field 2 7;turn 1;a=x+2;"), 0, 1, "1 1");
        products();
    }

    private static void norm(Probe probe, int i, int degree, String due) {
        Due.due("norm of " + probe.named(i), probe.ring.norm(i), degree);
        Due.due("norm result of " + probe.named(i), probe.result(0), due);
    }

    /** The NORM of a product is the product of NORMS, which all numbers pass. */
    private static void products() {
        for (String field : new String[] {"field 4 19;turn 1;slope 9;", "field 6 67;turn 2;slope 33;", "field 8 285;turn 4;slope 7;"}) {
            Probe probe = Probe.of(field + "a=3*x^2+x+6;b=x^3+7*x+1;c=a*b;p=0;q=0;");
            probe.ring.norm(0);
            probe.ring.keep(3, 0);
            probe.ring.norm(1);
            probe.ring.keep(4, 0);
            probe.ring.makes(3, 4, 1);
            String due = probe.result(0);
            Due.due("norm of a product", probe.ring.norm(2), 5);
            Due.due("product of norms", probe.result(0), due);
        }
    }
}
