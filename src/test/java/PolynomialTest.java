/** Promises 6 to 18: numbers, polynomials, RESULTS and acts undone. */
final class PolynomialTest {
    private static final String FOUR = "field 2 7;turn 1;slope 1;";
    private static final int[] ODD = {-1, -2, 12, 99, Integer.MAX_VALUE, Integer.MIN_VALUE};

    private PolynomialTest() {
    }

    public static void main(String[] args) {
        numbers();
        told();
        makes();
        divides();
        commonAndMultiple();
        results();
        keepAndUndo();
        Due.close("PolynomialTest");
    }

    private static void numbers() {
        TurnedRing ring = Probe.of("field 2 7;turn 1;slope 3;").ring;
        int[] odd = {-1, 4, 5, 255, 256, Integer.MAX_VALUE, Integer.MIN_VALUE};
        for (int a : odd) {
            Due.due("times " + a, ring.times(a, 1), -1);
            Due.due("times by " + a, ring.times(1, a), -1);
            Due.due("turned " + a, ring.turned(a, 0), -1);
            Due.due("slope " + a, ring.slope(a), -1);
            Due.due("kin of " + a, ring.kin(a, 1), -1);
            Due.due("kin to " + a, ring.kin(1, a), -1);
        }
        int[][] products = {{0, 0, 0}, {0, 3, 0}, {1, 3, 3}, {2, 2, 3}, {2, 3, 1}, {3, 3, 2}, {3, 1, 3}};
        for (int[] row : products) {
            Due.due("times " + row[0] + " " + row[1], ring.times(row[0], row[1]), row[2]);
        }
        int[][] turns = {{2, 0, 2}, {2, 1, 3}, {2, 2, 2}, {3, 99, 2}, {3, 98, 3}, {0, 5, 0}, {1, 5, 1}};
        for (int[] row : turns) {
            Due.due("turned " + row[0] + " " + row[1], ring.turned(row[0], row[1]), row[2]);
        }
        for (int k : new int[] {-1, 100, Integer.MAX_VALUE, Integer.MIN_VALUE}) {
            Due.due("turned by " + k, ring.turned(1, k), -1);
        }
        int[] slopes = {0, 0, 3, 3};
        for (int a = 0; a < 4; a++) {
            Due.due("slope " + a, ring.slope(a), slopes[a]);
        }
        TurnedRing eight = Probe.of("field 8 283;turn 7;slope 1;").ring;
        Due.due("83 times 202", eight.times(83, 202), 1);
        Due.due("255 times 255", eight.times(255, 255), 19);
        Due.due("turned 7 is undone by squaring", eight.times(eight.turned(90, 1), eight.turned(90, 1)), 90);
        Due.due("turned 8 times", eight.turned(90, 8), 90);
        Due.due("slope of 90", eight.slope(90), eight.turned(90, 1) ^ 90);
    }

    private static void told() {
        Probe probe = Probe.of(FOUR + "a=2*x^3+x+3;b=0;c=x^16+1;");
        int[][] numbers = {{3, 1, 0, 2, 0}, {0, 0, 0, 0, 0}, {1, 0, 0, 0, 0}};
        int[] degrees = {3, -1, 16};
        for (int i = 0; i < 3; i++) {
            Due.due("degree " + i, probe.ring.degree(i), degrees[i]);
            for (int j = 0; j < 5; j++) {
                Due.due("at " + i + " " + j, probe.ring.at(i, j), numbers[i][j]);
            }
            for (int j : new int[] {17, 18, 100, Integer.MAX_VALUE}) {
                Due.due("at beyond " + i + " " + j, probe.ring.at(i, j), 0);
            }
        }
        Due.due("at 2 16", probe.ring.at(2, 16), 1);
        for (int i : new int[] {3, 11, -1, 12, Integer.MAX_VALUE, Integer.MIN_VALUE}) {
            Due.throwsNoSuch("degree " + i, () -> probe.ring.degree(i));
            Due.throwsNoSuch("at " + i, () -> probe.ring.at(i, 0));
        }
        Due.throwsNoSuch("at 0 -1", () -> probe.ring.at(0, -1));
        Due.throwsNoSuch("at 0 least", () -> probe.ring.at(0, Integer.MIN_VALUE));
        Due.throwsNoSuch("at none -1", () -> probe.ring.at(5, -1));
    }

    private static void makes() {
        Probe probe = Probe.of(FOUR + "a=x+2;b=2*x;c=x^16;d=0;e=x^15;");
        makes(probe, 0, 1, 0, 1, "2 3");
        makes(probe, 0, 0, 0, -1, "");
        makes(probe, 2, 4, 0, 16, "0 0 0 0 0 0 0 0 0 0 0 0 0 0 0 1 1");
        makes(probe, 0, 1, 1, 2, "0 2 3");
        makes(probe, 1, 0, 1, 2, "2 1 2");
        makes(probe, 0, 0, 1, 2, "2 1 1");
        makes(probe, 3, 2, 1, -1, "");
        makes(probe, 2, 3, 1, -1, "");
        makes(probe, 3, 0, 0, 1, "2 1");
        makes(probe, 4, 1, 1, 16, "0 0 0 0 0 0 0 0 0 0 0 0 0 0 0 1 3");
        probe.ring.makes(0, 1, 0);
        probe.ring.divides(1, 0, 0);
        String before = probe.all();
        Due.due("degree 17", probe.ring.makes(0, 2, 1), -2);
        Due.due("degree 32", probe.ring.makes(2, 2, 1), -2);
        Due.due("what 2", probe.ring.makes(0, 0, 2), -2);
        Due.due("what -1", probe.ring.makes(0, 0, -1), -2);
        for (int i : new int[] {5, -1, 12, Integer.MAX_VALUE, Integer.MIN_VALUE}) {
            for (int what = 0; what < 2; what++) {
                Due.due("makes of " + i, probe.ring.makes(i, 0, what), -2);
                Due.due("makes by " + i, probe.ring.makes(0, i, what), -2);
            }
        }
        Due.due("results stay", probe.all(), before);
    }

    private static void makes(Probe probe, int i, int j, int what, int degree, String due) {
        String about = "makes " + i + " " + j + " " + what;
        Due.due(about, probe.ring.makes(i, j, what), degree);
        Due.due(about + " result", probe.result(0), due);
    }

    private static void divides() {
        Probe probe = Probe.of(FOUR + "a=2*x^2+x+3;b=3*x+1;c=0;d=x^16+x+2;e=2;f=x^16;g=3*x^16+2*x;");
        for (int side = 0; side < 2; side++) {
            for (int i = 0; i < 7; i++) {
                for (int j = 0; j < 7; j++) {
                    if (j != 2) {
                        divides(probe, i, j, side);
                    }
                }
            }
        }
        String before = probe.all();
        for (int i = 0; i < 7; i++) {
            Due.due("by 0 from the right", probe.ring.divides(i, 2, 0), -2);
            Due.due("by 0 from the left", probe.ring.divides(i, 2, 1), -2);
        }
        for (int odd : ODD) {
            Due.due("divides " + odd, probe.ring.divides(odd, 0, 0), -2);
            Due.due("divided by " + odd, probe.ring.divides(0, odd, 1), -2);
            Due.due("side " + odd, probe.ring.divides(0, 1, odd), -2);
        }
        Due.due("side 2", probe.ring.divides(0, 1, 2), -2);
        Due.due("results stay", probe.all(), before);
    }

    private static void divides(Probe probe, int i, int j, int side) {
        Naive naive = new Naive(2, 7, 1, 1);
        String about = "divides " + i + " " + j + " " + side;
        int[][] due = naive.divide(side == 1, probe.numbersOfName(i), probe.numbersOfName(j));
        Due.due(about, probe.ring.divides(i, j, side), Naive.deg(due[1]));
        Due.due(about + " q", java.util.Arrays.toString(probe.numbersOfResult(0)), java.util.Arrays.toString(due[0]));
        Due.due(about + " r", java.util.Arrays.toString(probe.numbersOfResult(1)), java.util.Arrays.toString(due[1]));
    }

    private static void commonAndMultiple() {
        Probe probe = Probe.of(FOUR + "a=(2*x+1)*(x+3);b=(3*x)*(x+3);c=0;d=x^16;e=x^16+1;f=2;g=(x+3)*(x+2);h=(x+3)*x;i=2*x+3;");
        common(probe, 0, 1, 0, "3 1", true);
        common(probe, 6, 7, 1, "3 1", false);
        common(probe, 2, 2, 0, "", true);
        common(probe, 2, 2, 1, "", false);
        common(probe, 2, 8, 0, "2 1", true);
        common(probe, 8, 2, 0, "2 1", true);
        common(probe, 5, 3, 0, "1", true);
        common(probe, 8, 2, 1, "3 1", false);
        common(probe, 3, 4, 0, "1", true);
        Due.due("u of f and 0", steps(probe, 8, 2), "3/");
        Due.due("u of 0 and f", steps(probe, 2, 8), "/3");
        Due.due("u of 0 and 0", steps(probe, 2, 2), "/");
        Due.due("u of f and f", steps(probe, 8, 8), "/3");
        Due.due("u of a number", steps(probe, 8, 5), "/3");
        steps(probe, 0, 1);
        String before = probe.result(2) + "/" + probe.result(3);
        probe.ring.common(6, 7, 1);
        Due.due("u and v stay from the left", probe.result(2) + "/" + probe.result(3), before);
        multiple(probe, 0, 2, 0, -1, "");
        multiple(probe, 2, 0, 1, -1, "");
        multiple(probe, 2, 2, 0, -1, "");
        multiple(probe, 3, 5, 0, 16, "0 0 0 0 0 0 0 0 0 0 0 0 0 0 0 0 1");
        multiple(probe, 8, 5, 0, 1, "2 1");
        multiple(probe, 8, 8, 1, 1, "3 1");
        multiple(probe, 8, 5, 1, 1, "3 1");
        String all = probe.all();
        Due.due("degree 32", probe.ring.multiple(3, 4, 0), -2);
        Due.due("degree 32 from the left", probe.ring.multiple(3, 4, 1), -2);
        for (int odd : ODD) {
            Due.due("common " + odd, probe.ring.common(odd, 0, 0), -2);
            Due.due("common with " + odd, probe.ring.common(0, odd, 0), -2);
            Due.due("common side " + odd, probe.ring.common(0, 1, odd), -2);
            Due.due("multiple " + odd, probe.ring.multiple(odd, 0, 0), -2);
            Due.due("multiple with " + odd, probe.ring.multiple(0, odd, 0), -2);
            Due.due("multiple side " + odd, probe.ring.multiple(0, 1, odd), -2);
        }
        Due.due("side 2", probe.ring.common(0, 1, 2) + probe.ring.multiple(0, 1, 2), -4);
        Due.due("results stay", probe.all(), all);
    }

    private static void common(Probe probe, int i, int j, int side, String due, boolean made) {
        Naive naive = new Naive(2, 7, 1, 1);
        String about = "common " + i + " " + j + " " + side;
        probe.ring.divides(3, 5, 0);
        String rest = probe.result(1);
        Due.due(about, probe.ring.common(i, j, side), due.isEmpty() ? -1 : (due.length() - 1) / 2);
        Due.due(about + " result", probe.result(0), due);
        Due.due(about + " result 1 stays", probe.result(1), rest);
        if (made) {
            int[] u = naive.times(probe.numbersOfResult(2), probe.numbersOfName(i));
            int[] v = naive.times(probe.numbersOfResult(3), probe.numbersOfName(j));
            Due.due(about + " made", java.util.Arrays.toString(Naive.add(u, v)),
                java.util.Arrays.toString(probe.numbersOfResult(0)));
        }
    }

    private static String steps(Probe probe, int i, int j) {
        probe.ring.common(i, j, 0);
        return probe.result(2) + "/" + probe.result(3);
    }

    private static void multiple(Probe probe, int i, int j, int side, int degree, String due) {
        String about = "multiple " + i + " " + j + " " + side;
        Due.due(about, probe.ring.multiple(i, j, side), degree);
        Due.due(about + " result", probe.result(0), due);
    }

    private static void results() {
        Probe probe = Probe.of(FOUR + "a=3*x+2;b=x^16;");
        probe.ring.makes(1, 1, 0);
        probe.ring.makes(0, 1, 0);
        Due.due("result 0 16", probe.ring.result(0, 16), 1);
        for (int j : new int[] {17, 18, 1000, Integer.MAX_VALUE}) {
            Due.due("result beyond " + j, probe.ring.result(0, j), 0);
            Due.due("result of 3 beyond " + j, probe.ring.result(3, j), 0);
        }
        Due.throwsNoSuch("result 0 -1", () -> probe.ring.result(0, -1));
        Due.throwsNoSuch("result 3 least", () -> probe.ring.result(3, Integer.MIN_VALUE));
        for (int k : new int[] {-1, 4, 5, Integer.MAX_VALUE, Integer.MIN_VALUE}) {
            Due.throwsNoSuch("result " + k, () -> probe.ring.result(k, 0));
            Due.due("resultDegree " + k, probe.ring.resultDegree(k), -2);
        }
        probe.ring.common(0, 0, 0);
        int[] degrees = {1, -1, -1, 0};
        for (int k = 0; k < 4; k++) {
            Due.due("resultDegree " + k, probe.ring.resultDegree(k), degrees[k]);
        }
    }

    private static void keepAndUndo() {
        Probe probe = Probe.of(FOUR + "a=3*x+2;b=x;");
        String before = probe.all();
        int[][] none = {{2, 0}, {-1, 0}, {12, 0}, {0, 4}, {0, -1}, {Integer.MAX_VALUE, 0}, {0, Integer.MIN_VALUE}};
        for (int[] row : none) {
            Due.due("keep " + row[0] + " " + row[1], probe.ring.keep(row[0], row[1]), false);
        }
        Due.due("nothing kept", probe.all(), before);
        Due.due("nothing to undo", probe.ring.undo(), -1);
        probe.ring.makes(0, 1, 1);
        Due.due("keep", probe.ring.keep(0, 0), true);
        Due.due("kept", probe.named(0), "0 2 3");
        Due.due("can be undone", probe.ring.count(7), 1);
        Due.due("keep another", probe.ring.keep(1, 3), true);
        Due.due("kept 0", probe.named(1), "");
        probe.ring.makes(0, 0, 0);
        Due.due("result is another", probe.named(0), "0 2 3");
        Due.due("undo the later", probe.ring.undo(), 1);
        Due.due("told again", probe.named(1), "0 1");
        Due.due("the other yet", probe.named(0), "0 2 3");
        Due.due("undo the first", probe.ring.undo(), 0);
        Due.due("told as ahead", probe.named(0), "2 3");
        Due.due("no more", probe.ring.undo(), -1);
        keepsOfSmallerField();
        sixteen();
    }

    private static void keepsOfSmallerField() {
        Probe probe = Probe.of("field 3 11;a=7*x+1;b=3;");
        probe.ring.makes(0, 1, 0);
        probe.script(FOUR + "a=1;b=2*x^2;");
        Due.due("a number of another field", probe.ring.keep(0, 0), false);
        Due.due("nothing to undo of it", probe.ring.undo(), -1);
        probe.ring.divides(1, 0, 0);
        Due.due("numbers of this field", probe.ring.keep(0, 0), true);
        Due.due("kept", probe.named(0), "0 0 2");
        probe.script("field 3 11;a=4*x^16;");
        probe.ring.makes(0, 0, 0);
        probe.ring.divides(0, 0, 0);
        probe.ring.keep(0, 0);
        Due.due("one", probe.named(0), "1");
        probe.ring.undo();
        probe.ring.makes(0, 0, 0);
        probe.script("field 3 11;a=4*x^16;z=0;");
        probe.ring.makes(0, 1, 0);
        probe.script(FOUR + "a=1;");
        Due.due("the highest number is of another field", probe.ring.keep(0, 0), false);
        probe.script("field 3 11;a=4;");
        probe.ring.makes(0, 0, 1);
        probe.script(FOUR + "a=1;");
        Due.due("the lowest number is of another field", probe.ring.keep(0, 0), false);
        Due.due("the name as it was", probe.named(0), "1");
    }

    private static void sixteen() {
        int[] kept = {0, 1, 1, 2, 0, 0, 2, 1, 0, 2, 2, 2, 1, 0, 1, 0, 2, 1, 1, 0, 2};
        Probe probe = Probe.of("field 8 283;turn 1;slope 3;a=x;b=7;c=x+200;");
        String[] told = new String[21];
        told[0] = three(probe);
        for (int k = 1; k <= 20; k++) {
            probe.ring.makes(kept[k - 1], kept[k], k % 3 == 0 ? 1 : 0);
            Due.due("keep " + k, probe.ring.keep(kept[k], 0), true);
            Due.due("can be undone", probe.ring.count(7), Math.min(k, 16));
            told[k] = three(probe);
        }
        for (int k = 19; k >= 4; k--) {
            Due.due("undo to " + k, probe.ring.undo(), k - 4);
            Due.due("as ahead of " + k, three(probe), told[k]);
        }
        Due.due("no more than 16", probe.ring.undo(), -1);
        Due.due("stays", three(probe), told[4]);
        probe.ring.keep(2, 0);
        Due.due("one again", probe.ring.undo(), 0);
    }

    private static String three(Probe probe) {
        return probe.named(0) + "/" + probe.named(1) + "/" + probe.named(2);
    }
}
