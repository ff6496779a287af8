import java.util.Arrays;

/**
 * Each sentence of the document that names an edge, of numbers, polynomials, RESULTS, places and images (promises 6 to 24,
 * 39 and 40). The comment of a test is the sentence, or its part, that it holds.
 */
final class EdgesOfPolynomialsTest {
    private static final int[] NO_NAMES = {-1, -2, 2, 11, 12, 13, Integer.MAX_VALUE, Integer.MIN_VALUE};
    private static final int[] NO_SIDES = {-1, 2, 3, Integer.MAX_VALUE, Integer.MIN_VALUE};
    private static final String FOUR = "field 2 7;turn 1;slope 1;";

    private EdgesOfPolynomialsTest() {
    }

    public static void main(String[] args) {
        numbersOfAllFields();
        turnsGoRound();
        rounds();
        degreeAndAt();
        makes();
        divides();
        dividesZeroAndLesser();
        common();
        commonSteps();
        multiple();
        results();
        keep();
        keepOfAnotherField();
        undo();
        values();
        roots();
        kin();
        classes();
        least();
        image();
        restore();
        throwing();
        Due.close("EdgesOfPolynomialsTest");
    }

    private static Probe field(int m, int s, int c, String names) {
        return Probe.field(m, s, c, names);
    }

    /** NUMBERS are 0 to 2^M - 1 (M 1 to 8); NONE: no such ones, no such one. */
    private static void numbersOfAllFields() {
        for (int m = 1; m <= 8; m++) {
            TurnedRing ring = field(m, m - 1, (1 << m) - 1, "a=x+1;").ring;
            Naive naive = new Naive(m, Probe.MODULI[m], m - 1, (1 << m) - 1);
            int last = (1 << m) - 1;
            Due.due("the last by the last of " + m, ring.times(last, last), naive.mul(last, last));
            Due.due("0 by the last of " + m, ring.times(0, last), 0);
            Due.due("the last by 1 of " + m, ring.times(last, 1), last);
            Due.due("the last turned, of " + m, ring.turned(last, 1), naive.t(last));
            Due.due("slope of the last of " + m, ring.slope(last), naive.d(last));
            Due.due("slope of 0 of " + m, ring.slope(0), 0);
            Due.due("slope of 1 of " + m, ring.slope(1), 0);
            Due.due("value at the last of " + m, ring.value(0, last), last ^ 1);
            Due.due("applied at the last of " + m, ring.applied(0, last, last), naive.applied(new int[] {1, 1}, last, last));
            Due.due("kin of the last of " + m, ring.kin(last, last), 1);
            for (int odd : new int[] {last + 1, last + 2, 256, 512, -1, -last, Integer.MAX_VALUE, Integer.MIN_VALUE}) {
                Due.due("times " + odd + " of " + m, ring.times(odd, 0), -1);
                Due.due("times by " + odd + " of " + m, ring.times(0, odd), -1);
                Due.due("turned " + odd + " of " + m, ring.turned(odd, 0), -1);
                Due.due("slope " + odd + " of " + m, ring.slope(odd), -1);
                Due.due("value at " + odd + " of " + m, ring.value(0, odd), -1);
                Due.due("applied at " + odd + " of " + m, ring.applied(0, odd, 0), -1);
                Due.due("applied to " + odd + " of " + m, ring.applied(0, 0, odd), -1);
                Due.due("kin of " + odd + " of " + m, ring.kin(odd, 0), -1);
                Due.due("kin to " + odd + " of " + m, ring.kin(0, odd), -1);
            }
        }
    }

    /** t k times (k 0 to 99) of a; NONE: no such ones. */
    private static void turnsGoRound() {
        for (int m = 1; m <= 8; m++) {
            for (int s = 0; s < m; s++) {
                TurnedRing ring = field(m, s, 0, "").ring;
                int a = (1 << m) - 1;
                int by = m > 1 ? 2 : 1;
                for (int k = 0; k <= 99; k++) {
                    Due.due("turned " + k + " times, M " + m + ", S " + s, ring.turned(by, k), squared(ring, by, s * k));
                }
                Due.due("0 turned 99 times", ring.turned(0, 99), 0);
                Due.due("the last turned 99 times", ring.turned(a, 99), squared(ring, a, s * 99));
                for (int k : new int[] {-1, 100, 101, Integer.MAX_VALUE, Integer.MIN_VALUE}) {
                    Due.due("turned " + k + " times", ring.turned(by, k), -1);
                }
            }
        }
    }

    private static int squared(TurnedRing ring, int a, int times) {
        int reached = a;
        for (int k = 0; k < times; k++) {
            reached = ring.times(reached, reached);
        }
        return reached;
    }

    /** ROUND R is M by the greatest number that divides M and S (1, if S is 0). */
    private static void rounds() {
        int[][] due = {{1}, {1, 2}, {1, 3, 3}, {1, 4, 2, 4}, {1, 5, 5, 5, 5}, {1, 6, 3, 2, 3, 6}, {1, 7, 7, 7, 7, 7, 7},
            {1, 8, 4, 8, 2, 8, 4, 8}};
        for (int m = 1; m <= 8; m++) {
            for (int s = 0; s < m; s++) {
                Due.due("ROUND of M " + m + ", S " + s, field(m, s, 0, "").ring.count(4), due[m - 1][s]);
            }
        }
    }

    /** NoSuchElementException: no such one; 0 beyond its degree; no such one, j below 0; 0 has the degree -1. */
    private static void degreeAndAt() {
        TurnedRing ring = Probe.of("field 8 283;a=0;b=255*x^16+200;").ring;
        Due.due("degree of 0", ring.degree(0), -1);
        Due.due("degree 16", ring.degree(1), 16);
        Due.due("the number of x^0", ring.at(1, 0), 200);
        Due.due("the number of x^15", ring.at(1, 15), 0);
        Due.due("the number of x^16", ring.at(1, 16), 255);
        for (int j : new int[] {17, 18, 31, 32, 33, 1 << 16, Integer.MAX_VALUE}) {
            Due.due("beyond its degree", ring.at(1, j), 0);
            Due.due("beyond that of 0", ring.at(0, j), 0);
        }
        Due.due("0 at 0", ring.at(0, 0), 0);
        for (int i : NO_NAMES) {
            Due.throwsNoSuch("degree of " + i, () -> ring.degree(i));
            Due.throwsNoSuch("at of " + i, () -> ring.at(i, 0));
            Due.throwsNoSuch("at of " + i + " below 0", () -> ring.at(i, -1));
        }
        for (int j : new int[] {-1, -2, -16, Integer.MIN_VALUE}) {
            Due.throwsNoSuch("at " + j, () -> ring.at(1, j));
            Due.throwsNoSuch("at " + j + " of 0", () -> ring.at(0, j));
        }
        Due.throwsNoSuch("no NAMES", () -> new TurnedRing().degree(0));
    }

    /** -2: no such ones, a degree above 16. */
    private static void makes() {
        for (int m = 0; m <= 16; m++) {
            for (int n : new int[] {0, 15 - m, 16 - m, 17 - m, 16}) {
                if (n < 0 || n > 16) {
                    continue;
                }
                Probe probe = Probe.of(FOUR + "a=2*x^" + m + ";b=3*x^" + n + "+1;");
                probe.ring.makes(1, 1, 0);
                int due = m + n > 16 ? -2 : m + n;
                Due.due("degrees " + m + " and " + n, probe.ring.makes(0, 1, 1), due);
                Due.due("RESULT 0 of them", probe.ring.resultDegree(0), due == -2 ? -1 : due);
                Due.due("added " + m + " and " + n, probe.ring.makes(0, 1, 0), probe.ring.resultDegree(0));
            }
        }
        Probe probe = Probe.of(FOUR + "a=x^16+x;b=0;");
        Due.due("by 0", probe.ring.makes(0, 1, 1), -1);
        Due.due("0 by", probe.ring.makes(1, 0, 1), -1);
        Due.due("0 by 0", probe.ring.makes(1, 1, 1), -1);
        Due.due("and 0", probe.ring.makes(0, 1, 0), 16);
        Due.due("it and it", probe.ring.makes(0, 0, 0), -1);
        probe.ring.makes(0, 1, 0);
        String before = probe.all();
        Due.due("degree 32", probe.ring.makes(0, 0, 1), -2);
        for (int what : new int[] {-1, 2, 3, Integer.MAX_VALUE, Integer.MIN_VALUE}) {
            Due.due("what " + what, probe.ring.makes(0, 0, what), -2);
        }
        for (int i : NO_NAMES) {
            Due.due("of " + i, probe.ring.makes(i, 0, 0) + probe.ring.makes(0, i, 0), -4);
            Due.due("by " + i, probe.ring.makes(i, 1, 1) + probe.ring.makes(1, i, 1), -4);
        }
        Due.due("nothing is made", probe.all(), before);
    }

    /** -2: no such ones, g is 0. */
    private static void divides() {
        Probe probe = Probe.of(FOUR + "a=x^16+x;b=0;");
        probe.ring.makes(0, 0, 0);
        String before = probe.all();
        for (int side = 0; side < 2; side++) {
            Due.due("by 0", probe.ring.divides(0, 1, side), -2);
            Due.due("0 by 0", probe.ring.divides(1, 1, side), -2);
            for (int i : NO_NAMES) {
                Due.due("of " + i, probe.ring.divides(i, 0, side), -2);
                Due.due("by " + i, probe.ring.divides(0, i, side), -2);
            }
        }
        for (int side : NO_SIDES) {
            Due.due("side " + side, probe.ring.divides(0, 0, side), -2);
        }
        Due.due("nothing is divided", probe.all(), before);
    }

    /** r of a lesser degree than g. */
    private static void dividesZeroAndLesser() {
        Probe probe = Probe.of(FOUR + "a=2*x+3;b=3*x^2+x;c=0;d=3;e=x^16+2*x;f=3*x^16+2;");
        for (int side = 0; side < 2; side++) {
            divided(probe, 0, 1, side, "", "3 2");
            divided(probe, 2, 0, side, "", "");
            divided(probe, 2, 3, side, "", "");
            divided(probe, 0, 0, side, "1", "");
            divided(probe, 3, 3, side, "1", "");
            divided(probe, 4, 4, side, "1", "");
            divided(probe, 3, 4, side, "", "3");
            Due.due("16 by 16", probe.ring.divides(5, 4, side) < 16, true);
            Due.due("16 by a number", probe.ring.divides(5, 3, side), -1);
            Due.due("its quotient", probe.ring.resultDegree(0), 16);
        }
    }

    private static void divided(Probe probe, int i, int j, int side, String quotient, String rest) {
        String about = "divides " + i + " " + j + " " + side;
        Due.due(about, probe.ring.divides(i, j, side), rest.isEmpty() ? -1 : rest.length() / 2);
        Due.due(about + " q", probe.result(0), quotient);
        Due.due(about + " r", probe.result(1), rest);
    }

    /** Common part of 0 and 0: 0; -2: no such ones. */
    private static void common() {
        Probe probe = Probe.of(FOUR + "a=2*x^16+x;b=0;");
        for (int side = 0; side < 2; side++) {
            Due.due("of 0 and 0", probe.ring.common(1, 1, side), -1);
            Due.due("RESULT of 0 and 0", probe.result(0), "");
            Due.due("of one and 0", probe.ring.common(0, 1, side), 16);
            String one = probe.result(0);
            Due.due("MONIC", probe.ring.result(0, 16), 1);
            Due.due("of 0 and one", probe.ring.common(1, 0, side), 16);
            Due.due("is the same", probe.result(0), one);
            Due.due("of one and itself", probe.ring.common(0, 0, side), 16);
            Due.due("is the same too", probe.result(0), one);
        }
        String before = probe.all();
        for (int side = 0; side < 2; side++) {
            for (int i : NO_NAMES) {
                Due.due("of " + i, probe.ring.common(i, 0, side), -2);
                Due.due("with " + i, probe.ring.common(0, i, side), -2);
            }
        }
        for (int side : NO_SIDES) {
            Due.due("side " + side, probe.ring.common(0, 0, side), -2);
        }
        Due.due("nothing is told", probe.all(), before);
    }

    /** As the steps of dividing f by g, g by r, and so on give them, taken MONIC at the end; 0 and 0: 0, 0. */
    private static void commonSteps() {
        Probe probe = Probe.of(FOUR + "a=2*x;b=0;c=3;d=x^16+1;");
        String[][] due = {{"0 1", "3/", "0 1"}, {"1 0", "/3", "0 1"}, {"0 0", "/3", "0 1"}, {"1 1", "/", ""},
            {"2 1", "2/", "1"}, {"1 2", "/2", "1"}, {"2 2", "/2", "1"}, {"0 2", "/2", "1"}, {"2 0", "2/", "1"},
            {"3 3", "/1", "1 0 0 0 0 0 0 0 0 0 0 0 0 0 0 0 1"}};
        for (int k = 0; k < due.length; k++) {
            int i = due[k][0].charAt(0) - '0';
            int j = due[k][0].charAt(2) - '0';
            probe.ring.common(i, j, 0);
            Due.due("u, v of " + due[k][0], probe.result(2) + "/" + probe.result(3), due[k][1]);
            Due.due("part of " + due[k][0], probe.result(0), due[k][2]);
        }
        String steps = probe.result(2) + "/" + probe.result(3);
        Due.due("from the left", probe.ring.common(0, 2, 1), 0);
        Due.due("u, v as they were", probe.result(2) + "/" + probe.result(3), steps);
        Due.due("of 0 and 0 from the left", probe.ring.common(1, 1, 1), -1);
        Due.due("u, v as they were", probe.result(2) + "/" + probe.result(3), steps);
    }

    /** 0, if one is 0; -2: no such ones, a degree above 16. */
    private static void multiple() {
        for (int side = 0; side < 2; side++) {
            for (int m = 0; m <= 16; m++) {
                for (int n = 15 - m; n <= 17 - m; n++) {
                    if (n < 0 || n > 16) {
                        continue;
                    }
                    Probe probe = Probe.of("field 2 7;slope 1;a=2*x^" + m + ";b=3*(x+2)^" + n + ";");
                    probe.ring.makes(0, 0, 0);
                    int due = m + n > 16 ? -2 : m + n;
                    Due.due("degrees " + m + " and " + n, probe.ring.multiple(0, 1, side), due);
                    Due.due("RESULT 0 of them", probe.ring.resultDegree(0), due == -2 ? -1 : due);
                    Due.due("MONIC", due == -2 ? 1 : probe.ring.result(0, due), 1);
                }
            }
            Probe probe = Probe.of(FOUR + "a=2*x^16+x;b=0;");
            Due.due("of it and it", probe.ring.multiple(0, 0, side), 16);
            Due.due("of it and 0", probe.ring.multiple(0, 1, side), -1);
            Due.due("RESULT of it and 0", probe.result(0), "");
            probe.ring.multiple(0, 0, side);
            Due.due("of 0 and it", probe.ring.multiple(1, 0, side), -1);
            probe.ring.multiple(0, 0, side);
            Due.due("of 0 and 0", probe.ring.multiple(1, 1, side), -1);
            Due.due("RESULT of 0 and 0", probe.result(0), "");
            String before = probe.all();
            for (int i : NO_NAMES) {
                Due.due("of " + i, probe.ring.multiple(i, 0, side), -2);
                Due.due("with " + i, probe.ring.multiple(1, i, side), -2);
            }
            for (int odd : NO_SIDES) {
                Due.due("side " + odd, probe.ring.multiple(0, 0, odd), -2);
                Due.due("side " + odd + " of 0", probe.ring.multiple(1, 1, odd), -2);
            }
            Due.due("nothing is told", probe.all(), before);
        }
    }

    /** RESULT k (0 to 3); 0 at first and beyond; no such one, j below 0; -2: no such one. */
    private static void results() {
        Probe probe = Probe.of(FOUR + "a=2*x^16+x;b=x^2;c=x;");
        TurnedRing ring = probe.ring;
        ring.makes(0, 0, 0);
        ring.makes(0, 0, 1);
        ring.common(0, 1, 0);
        ring.divides(0, 1, 0);
        ring.makes(0, 2, 0);
        Due.due("x^16 of RESULT 0", ring.result(0, 16), 2);
        for (int k = 0; k < 4; k++) {
            int one = k;
            for (int j : new int[] {17, 18, 100, Integer.MAX_VALUE}) {
                Due.due("beyond RESULT " + k, ring.result(k, j), 0);
            }
            Due.due("RESULT " + k + " has a degree", ring.resultDegree(k) > -2, true);
            for (int j : new int[] {-1, -17, Integer.MIN_VALUE}) {
                Due.throwsNoSuch("RESULT " + k + " below 0", () -> ring.result(one, j));
            }
        }
        for (int k : new int[] {-1, 4, 5, 12, Integer.MAX_VALUE, Integer.MIN_VALUE}) {
            Due.throwsNoSuch("RESULT " + k, () -> ring.result(k, 0));
            Due.throwsNoSuch("RESULT " + k + " beyond", () -> ring.result(k, 17));
            Due.throwsNoSuch("RESULT " + k + " below 0", () -> ring.result(k, -1));
            Due.due("degree of RESULT " + k, ring.resultDegree(k), -2);
        }
    }

    /** true; false: no such ones. */
    private static void keep() {
        Probe probe = Probe.of("a=x;b=1;c=1;d=1;e=1;f=1;g=1;h=1;i=1;j=1;k=1;l=x^16;");
        probe.ring.divides(11, 0, 0);
        probe.ring.common(0, 1, 0);
        String before = probe.all();
        for (int i : new int[] {-1, 12, 13, Integer.MAX_VALUE, Integer.MIN_VALUE}) {
            Due.due("keep in " + i, probe.ring.keep(i, 0), false);
        }
        for (int k : new int[] {-1, 4, 5, Integer.MAX_VALUE, Integer.MIN_VALUE}) {
            Due.due("keep RESULT " + k, probe.ring.keep(0, k), false);
        }
        Due.due("nothing is kept", probe.all(), before);
        Due.due("nothing to undo", probe.ring.undo(), -1);
        probe.ring.multiple(0, 11, 0);
        Due.due("keep in the last", probe.ring.keep(11, 0), true);
        Due.due("of degree 16", probe.ring.degree(11), 16);
        Due.due("keep in the first", probe.ring.keep(0, 3), true);
        Due.due("of the last RESULT", probe.named(0), probe.result(3));
        Due.due("12 NAMES yet", probe.ring.count(5), 12);
        Probe one = Probe.of("a=x;");
        Due.due("keep in a NAME that is not told", one.ring.keep(1, 0), false);
        Due.due("without any", new TurnedRing().keep(0, 0), false);
    }

    /** false: a number in it that is none of the field. */
    private static void keepOfAnotherField() {
        for (int m = 2; m <= 8; m++) {
            int size = 1 << m - 1;
            String less = "field " + (m - 1) + " " + Probe.MODULI[m - 1] + ";b=1;";
            for (int j = 0; j <= 16; j += 4) {
                Probe probe = field(m, 0, 0, "a=" + size + "*x^" + j + ";b=0;");
                probe.ring.makes(0, 1, 0);
                Due.due("of the field", probe.ring.keep(1, 0), true);
                probe.script(less);
                Due.due("2^M at x^" + j, probe.ring.keep(0, 0), false);
                Due.due("as it was", probe.named(0), "1");
                Due.due("nothing to undo", probe.ring.count(7), 0);
                probe = field(m, 0, 0, "a=" + (size - 1) + "*x^" + j + ";b=0;");
                probe.ring.makes(0, 1, 0);
                probe.script(less);
                Due.due("2^M - 1 at x^" + j, probe.ring.keep(0, 0), true);
                Due.due("it", probe.ring.at(0, j), size - 1);
            }
        }
    }

    /** The latest 16 can be: how many more can be; NONE: there is none. */
    private static void undo() {
        for (int keeps = 0; keeps <= 34; keeps++) {
            Probe probe = Probe.of("field 6 67;a=0;b=1;c=x;");
            int[] told = new int[keeps + 1];
            for (int k = 1; k <= keeps; k++) {
                probe.bytes(k).ring.least();
                probe.ring.keep(0, 0);
                told[k] = k;
                Due.due("can be undone", probe.ring.count(7), Math.min(k, 16));
            }
            int can = Math.min(keeps, 16);
            for (int k = 1; k <= can; k++) {
                Due.due("undone " + k + " of " + keeps, probe.ring.undo(), can - k);
                Due.due("as it was", probe.named(0), keeps == k ? "" : told[keeps - k] + " 1");
            }
            Due.due("no more of " + keeps, probe.ring.undo(), -1);
            Due.due("and none yet", probe.ring.undo(), -1);
            Due.due("as undone", probe.named(0), keeps <= 16 ? "" : told[keeps - 16] + " 1");
            Due.due("the others stay", probe.named(1) + "/" + probe.named(2), "1/0 1");
            probe.ring.keep(1, 3);
            Due.due("a keep behind", probe.ring.undo(), 0);
        }
        Probe probe = Probe.of("a=x;");
        probe.ring.keep(0, 0);
        probe.script("@");
        Due.due("a FAULT leaves it", probe.ring.count(7), 1);
        probe.script("a=x;");
        Due.due("since the SCRIPT", probe.ring.undo(), -1);
        probe.ring.keep(0, 0);
        probe.ring.keep(0, 4);
        probe.ring.keep(1, 0);
        Due.due("refused ones are none", probe.ring.undo(), 0);
    }

    // Places

    /** VALUE of NAME i at a; NAME i APPLIED at a to b; NONE: no such ones. */
    private static void values() {
        Probe probe = Probe.of("field 4 19;turn 1;slope 6;a=0;b=x^16+9*x^15+x+3;");
        Naive naive = new Naive(4, 19, 1, 6);
        int[] f = probe.numbersOfName(1);
        for (int a = 0; a < 16; a++) {
            Due.due("VALUE of 0", probe.ring.value(0, a), 0);
            Due.due("VALUE of degree 16 at " + a, probe.ring.value(1, a), naive.value(f, a));
            Due.due("0 APPLIED", probe.ring.applied(0, a, 15), 0);
            Due.due("APPLIED to 0", probe.ring.applied(1, a, 0), 0);
            Due.due("APPLIED to 1 is the VALUE", probe.ring.applied(1, a, 1), probe.ring.value(1, a));
            Due.due("APPLIED to the last", probe.ring.applied(1, a, 15), naive.applied(f, a, 15));
        }
        for (int i : NO_NAMES) {
            Due.due("VALUE of " + i, probe.ring.value(i, 0), -1);
            Due.due(i + " APPLIED", probe.ring.applied(i, 0, 0), -1);
            Due.due("roots of " + i, probe.ring.roots(i, -1), -1);
            Due.due("first root of " + i, probe.ring.roots(i, 0), -1);
        }
        Due.due("VALUE at 16", probe.ring.value(0, 16), -1);
        Due.due("APPLIED at 16", probe.ring.applied(0, 16, 0), -1);
        Due.due("APPLIED to 16", probe.ring.applied(0, 0, 16), -1);
    }

    /** How many (k NONE), or the k-th (rising). NONE: none such, no such NAME. */
    private static void roots() {
        for (int m = 1; m <= 8; m++) {
            int size = 1 << m;
            Probe probe = field(m, 0, 0, "a=0;b=1;c=x;d=x+" + (size - 1) + ";");
            int[][] counts = {{0, size}, {1, 0}, {2, 1}, {3, 1}};
            for (int[] row : counts) {
                Due.due("how many of " + row[0], probe.ring.roots(row[0], -1), row[1]);
                Due.due("behind the last of " + row[0], probe.ring.roots(row[0], row[1]), -1);
                for (int k : new int[] {-2, -3, size, size + 1, Integer.MAX_VALUE, Integer.MIN_VALUE}) {
                    Due.due("root " + k + " of " + row[0], probe.ring.roots(row[0], k), -1);
                }
            }
            for (int k = 0; k < size; k++) {
                Due.due("of 0 all are", probe.ring.roots(0, k), k);
            }
            Due.due("the least place", probe.ring.roots(2, 0), 0);
            Due.due("the greatest place", probe.ring.roots(3, 0), size - 1);
        }
    }

    /** KIN of a by c (not 0); the least c; NONE: it is not. */
    private static void kin() {
        TurnedRing plain = Probe.of("field 2 7;").ring;
        TurnedRing turned = Probe.of("field 2 7;turn 1;").ring;
        TurnedRing two = new TurnedRing();
        for (int a = 0; a < 4; a++) {
            for (int b = 0; b < 4; b++) {
                Due.due("without a turn " + a + " " + b, plain.kin(a, b), a == b ? 1 : -1);
                int due = a == 0 || b == 0 ? (a == b ? 1 : -1) : turned.times(b, turned.times(a, a));
                Due.due("turned " + a + " " + b, turned.kin(a, b), due);
            }
        }
        Due.due("0 in the field of two", two.kin(0, 0), 1);
        Due.due("1 in the field of two", two.kin(1, 1), 1);
        Due.due("0 and 1 in the field of two", two.kin(0, 1), -1);
        TurnedRing four = Probe.of("field 4 19;turn 2;").ring;
        for (int c = 1; c < 16; c++) {
            int by = four.kin(1, four.times(c, four.times(c, c)));
            Due.due("the least of several by " + c, by <= c && by > 0, true);
        }
    }

    /** How many CLASSES there are. */
    private static void classes() {
        for (int m = 1; m <= 8; m++) {
            for (int s = 0; s < m; s++) {
                int due = s == 0 ? 1 << m : (1 << divisor(m, s));
                for (int c : new int[] {0, 1, (1 << m) - 1}) {
                    Due.due("classes of M " + m + ", S " + s + ", C " + c, field(m, s, c, "").ring.classes(), due);
                }
            }
        }
    }

    /** The greatest number that divides both: 2 to it numbers are left by t as they are, and so many CLASSES there are. */
    private static int divisor(int m, int s) {
        for (int by = m; by > 0; by--) {
            if (m % by == 0 && s % by == 0) {
                return by;
            }
        }
        return 1;
    }

    /** LEAST of the tape's places (0 to 16 numbers); -2: not as told. */
    private static void least() {
        Probe probe = Probe.of("field 8 283;a=0;");
        int[] places = new int[18];
        for (int k = 0; k < 18; k++) {
            places[k] = 238 + k;
        }
        for (int count = 0; count <= 16; count++) {
            Due.due("LEAST of " + count, probe.bytes(Arrays.copyOf(places, count)).ring.least(), count);
            Due.due("MONIC", probe.ring.result(0, count), 1);
            probe.ring.keep(0, 0);
            Due.due("0 at so many", probe.ring.roots(0, -1), count);
        }
        String before = probe.all();
        Due.due("LEAST of 17", probe.bytes(Arrays.copyOf(places, 17)).ring.least(), -2);
        Due.due("LEAST of 17 that are one", probe.bytes(new int[17]).ring.least(), -2);
        Due.due("LEAST of 540", probe.bytes(new int[540]).ring.least(), -2);
        Due.due("nothing is told", probe.all(), before);
        Due.due("LEAST of 16 that are one", probe.bytes(new int[16]).ring.least(), 1);
        Due.due("it is x", probe.result(0), "0 1");
        Due.due("LEAST of none", probe.bytes().ring.least(), 0);
        Due.due("it is 1", probe.result(0), "1");
        for (int m = 1; m < 8; m++) {
            Probe less = field(m, m - 1, 1, "");
            Due.due("the last number", less.bytes((1 << m) - 1).ring.least(), 1);
            Due.due("its LEAST", less.result(0), ((1 << m) - 1) + " 1");
            Due.due("no number", less.bytes(1 << m).ring.least(), -2);
            Due.due("no number behind others", less.bytes(0, 1, 0, 1 << m).ring.least(), -2);
            Due.due("its LEAST stays", less.result(0), ((1 << m) - 1) + " 1");
        }
    }

    // Images

    /** Kept in place k (0, 1): true; false: no such one. */
    private static void image() {
        Probe probe = Probe.of(FOUR + "a=x+2;");
        for (int k : new int[] {-1, 2, 3, Integer.MAX_VALUE, Integer.MIN_VALUE}) {
            Due.due("image " + k, probe.ring.image(k), false);
            Due.due("nothing in 0", probe.ring.restore(0), false);
            Due.due("nothing in 1", probe.ring.restore(1), false);
            Due.due("nothing in " + k, probe.ring.restore(k), false);
        }
        Due.due("image 0", probe.ring.image(0), true);
        Due.due("nothing in 1 yet", probe.ring.restore(1), false);
        Due.due("image 1", probe.ring.image(1), true);
        probe.script("");
        Due.due("restore 1", probe.ring.restore(1), true);
        Due.due("what it tells", probe.named(0), "2 1");
    }

    /** They are as kept in place k (the tape, RESULTS and what register() told stay); false: .. or nothing is kept there. */
    private static void restore() {
        Probe probe = new Probe();
        Due.due("image of a new one", probe.ring.image(0), true);
        probe.script(FOUR + "a=2*x+1;b=x^2+3;c=0;");
        probe.bytes(1, 2, 3, 0, 1, 2, 3, 1).ring.points();
        for (int k = 0; k < 20; k++) {
            probe.ring.makes(0, 1, 0);
            probe.ring.keep(k % 3, 0);
        }
        String full = probe.all();
        Due.due("image of a full one", probe.ring.image(1), true);
        probe.bytes(2, 3, 1, 2).ring.register();
        int tap = probe.ring.tap(1);
        probe.ring.divides(1, 0, 0);
        String results = probe.results();
        probe.bytes(1, 2, 3, 3, 3);
        for (int times = 0; times < 3; times++) {
            Due.due("restore 0", probe.ring.restore(0), true);
            int[] due = {1, 3, 0, 0, 1, 0, 0, 0, 5};
            for (int what = 0; what < 9; what++) {
                Due.due("as new " + what, probe.ring.count(what), due[what]);
            }
            Due.throwsNoSuch("no NAMES", () -> probe.ring.degree(0));
            Due.due("its numbers", probe.ring.times(2, 2), -1);
            Due.due("nothing to undo", probe.ring.undo(), -1);
            Due.due("RESULTS stay", probe.results(), results);
            Due.due("register() stays", probe.ring.tap(1), tap);
            for (int k : new int[] {-1, 2, Integer.MAX_VALUE, Integer.MIN_VALUE}) {
                Due.due("restore " + k, probe.ring.restore(k), false);
            }
            Due.due("nothing is brought back", probe.ring.count(5), 0);
            Due.due("restore 1", probe.ring.restore(1), true);
            Due.due("its numbers", probe.ring.times(2, 2), 3);
            Due.due("16 can be undone", probe.ring.undo(), 15);
            Due.due("RESULTS stay", probe.results(), results);
            Due.due("the tape stays", probe.ring.count(8), 5);
        }
        probe.ring.end(0);
        probe.ring.restore(1);
        probe.ring.makes(0, 1, 0);
        Due.due("as it was but RESULTS", cut(probe.all()), cut(full));
    }

    /** Without RESULTS. */
    private static String cut(String all) {
        return all.substring(0, all.indexOf('{')) + all.substring(all.lastIndexOf('}'));
    }

    /** A call that throws changes nothing. */
    private static void throwing() {
        Probe probe = Probe.of(FOUR + "a=2*x+1;b=x^2+3;");
        probe.bytes(1, 2, 3).ring.points();
        probe.ring.common(0, 1, 0);
        probe.ring.keep(0, 0);
        probe.bytes(1, 2, 1).ring.register();
        probe.script("@");
        probe.bytes(1, 2, 3, 1);
        String before = probe.all() + probe.ring.tap(1) + probe.ring.fault();
        int[] odd = {-1, 2, 4, 12, Integer.MAX_VALUE, Integer.MIN_VALUE};
        for (int one : odd) {
            Due.throwsNoSuch("degree " + one, () -> probe.ring.degree(one));
            Due.throwsNoSuch("at " + one, () -> probe.ring.at(one, 0));
            Due.throwsNoSuch("at of " + one, () -> probe.ring.at(one, -1));
            Due.throwsNoSuch("result " + one, () -> probe.ring.result(one == 2 ? 4 : one, 0));
            Due.throwsNoSuch("result of " + one, () -> probe.ring.result(0, -1));
            Due.due("nothing is changed", probe.all() + probe.ring.tap(1) + probe.ring.fault(), before);
        }
        Due.due("nor the bytes", probe.ring.rank(), 2);
        Due.due("nor what can be undone", probe.ring.undo(), 0);
        Due.due("it", probe.named(0), "1 2");
    }
}
