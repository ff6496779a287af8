import java.util.Arrays;

/**
 * Each sentence of the document that names an edge, of words, codes and registers (promises 30 to 38). The comment of a
 * test is the sentence, or its part, that it holds.
 */
final class EdgesOfWordsTest {
    /** For each M the greatest k of which there are 4096 (2^M)^k or less. */
    private static final int[] FEW = {0, 12, 6, 4, 3, 2, 2, 1, 1};
    private static final int[] NO_NAMES = {-1, -2, 4, 11, 12, Integer.MAX_VALUE, Integer.MIN_VALUE};
    private static final int[] FAR = {9, 10, 13, 16, 17, 32, 1 << 16, 1 << 28, 1 << 29, 1 << 30, Integer.MAX_VALUE};

    private EdgesOfWordsTest() {
    }

    public static void main(String[] args) {
        ranks();
        lengthsOfBlocks();
        sumRanksOfOddTapes();
        lengthsOfCycles();
        weightsRefused();
        weightsOfFew();
        points();
        pointsStay();
        wordPlaces();
        dimensions();
        distancesOfFew();
        mendsOddTapes();
        mendsBytesBehind();
        mendsCut();
        mendsNoneOrSome();
        registersOfEachLength();
        registersRefused();
        leastTaps();
        tapPlaces();
        Due.close("EdgesOfWordsTest");
    }

    private static Probe field(int m, int s, String names) {
        return Probe.field(m, s, 0, names);
    }

    /** As many of these numbers, again and again. */
    private static int[] row(int count, int... numbers) {
        int[] row = new int[count];
        for (int k = 0; k < count; k++) {
            row[k] = numbers[k % numbers.length];
        }
        return row;
    }

    /** WORDS are rows of numbers (1 to 16); NONE: not as told. */
    private static void ranks() {
        for (int m = 1; m <= 8; m++) {
            Probe probe = field(m, 0, "");
            int last = (1 << m) - 1;
            for (int count = 0; count <= 40; count++) {
                boolean told = count >= 1 && count <= 16;
                Due.due("zeros " + count, probe.bytes(new int[count]).ring.rank(), told ? 0 : -1);
                Due.due("last numbers " + count, probe.bytes(row(count, last)).ring.rank(), told ? 1 : -1);
                int[] bits = new int[count];
                for (int k = 0; k < count; k++) {
                    bits[k] = 1 << k % m;
                }
                Due.due("bits " + count, probe.bytes(bits).ring.rank(), told ? Math.min(count, m) : -1);
                for (int k = 0; k < count && m < 8; k++) {
                    int[] odd = new int[count];
                    odd[k] = last + 1;
                    Due.due("no number at " + k, probe.bytes(odd).ring.rank(), -1);
                    odd[k] = 255;
                    Due.due("255 at " + k, probe.bytes(odd).ring.rank(), -1);
                }
            }
        }
    }

    private static int[] blocks(int count, int length, int... numbers) {
        int[] tape = new int[1 + count + count * length];
        tape[0] = count;
        Arrays.fill(tape, 1, 1 + count, length);
        for (int k = 1 + count; k < tape.length; k++) {
            tape[k] = numbers[(k - 1 - count) % numbers.length];
        }
        return tape;
    }

    /** How many blocks (1 to 8), their lengths (1 or more), the word (as long as these together). */
    private static void lengthsOfBlocks() {
        Probe probe = field(3, 1, "");
        for (int count = 0; count <= 20; count++) {
            for (int length = 0; length <= 20; length++) {
                boolean told = count >= 1 && count <= 8 && length >= 1 && count * length <= 16;
                int[] tape = blocks(count, length, 7);
                String about = count + " blocks of " + length;
                Due.due(about, probe.bytes(tape).ring.sumRank(), told ? count : -1);
                int[] longer = Arrays.copyOf(tape, tape.length + 1);
                Due.due(about + " and one more", probe.bytes(longer).ring.sumRank(), -1);
                int[] shorter = Arrays.copyOf(tape, tape.length - 1);
                Due.due(about + " and one less", probe.bytes(shorter).ring.sumRank(), -1);
                int[] fields = blocks(count, length, 1, 2, 4, 3, 5);
                int each = 0;
                for (int b = 0; b < count && told; b++) {
                    each += Naive.rank(Arrays.copyOfRange(fields, 1 + count + b * length, 1 + count + (b + 1) * length));
                }
                Due.due(about + " of many numbers", probe.bytes(fields).ring.sumRank(), told ? each : -1);
            }
        }
    }

    /** NONE: not as told. */
    private static void sumRanksOfOddTapes() {
        Probe probe = field(3, 1, "");
        int[] good = {3, 2, 1, 3, 1, 2, 4, 1, 2, 3};
        Due.due("as told", probe.bytes(good).ring.sumRank(), 5);
        for (int length = 0; length < good.length; length++) {
            Due.due("its first " + length, probe.bytes(Arrays.copyOf(good, length)).ring.sumRank(), -1);
        }
        for (int k = 0; k < good.length; k++) {
            for (int number : new int[] {0, 8, 9, 16, 17, 255}) {
                int[] odd = good.clone();
                odd[k] = number;
                boolean told = k > 3 && number < 8;
                Due.due("with " + number + " at " + k, probe.bytes(odd).ring.sumRank() >= 0, told);
            }
        }
        Due.due("a length of 0 among others", probe.bytes(2, 2, 0, 1, 1).ring.sumRank(), -1);
        Due.due("a length of 0 ahead", probe.bytes(2, 0, 2, 1, 1).ring.sumRank(), -1);
        Due.due("16 in one block", probe.bytes(blocks(1, 16, 1, 2)).ring.sumRank(), 2);
        Due.due("17 in one block", probe.bytes(blocks(1, 17, 1, 2)).ring.sumRank(), -1);
        Due.due("16 in eight blocks", probe.bytes(blocks(8, 2, 1, 2)).ring.sumRank(), 16);
        Due.due("9 blocks", probe.bytes(blocks(9, 1, 1)).ring.sumRank(), -1);
        Due.due("lengths that wrap around a byte", probe.bytes(2, 255, 2, 1).ring.sumRank(), -1);
        Due.due("a full tape", probe.bytes(row(540, 1)).ring.sumRank(), -1);
        Due.due("an empty tape", probe.bytes().ring.sumRank(), -1);
    }

    /** CYCLIC words of length n (2 to 8) by g (of degree below n). */
    private static void lengthsOfCycles() {
        for (int degree = 0; degree <= 16; degree++) {
            TurnedRing ring = Probe.of("a=x^" + degree + ";b=x^" + degree + "+1;").ring;
            for (int n = -1; n <= 18; n++) {
                boolean told = n >= 2 && n <= 8 && degree < n;
                Due.due("x^" + degree + ", length " + n, ring.weight(0, n), told ? 1 : -2);
                int due = degree == 0 ? -2 : told ? 2 : -2;
                Due.due("x^" + degree + "+1, length " + n, ring.weight(1, n), due);
            }
        }
    }

    /** -2: no such ones, 0, a degree that is not below n. */
    private static void weightsRefused() {
        TurnedRing ring = field(2, 1, "a=x^2+1;b=0;c=3;d=x^16;").ring;
        for (int i : NO_NAMES) {
            for (int n : new int[] {1, 2, 4, 8, 9}) {
                Due.due("by " + i, ring.weight(i, n), -2);
            }
        }
        for (int n = 0; n <= 9; n++) {
            Due.due("by 0, length " + n, ring.weight(1, n), -2);
            Due.due("by x^16, length " + n, ring.weight(3, n), -2);
        }
        for (int n : new int[] {-1, -2, -8, 0, 1, 9, 10, 1 << 29, 1 << 30, Integer.MAX_VALUE, Integer.MIN_VALUE}) {
            Due.due("length " + n, ring.weight(0, n), -2);
            Due.due("by a number, length " + n, ring.weight(2, n), -2);
        }
        Due.due("length 2, degree 2", ring.weight(0, 2), -2);
        Due.due("length 3, degree 2", ring.weight(0, 3), 2);
    }

    /** More than 4096 (2^M)^(n less the degree); numbers that fill the row. */
    private static void weightsOfFew() {
        for (int m = 1; m <= 8; m++) {
            int last = (1 << m) - 1;
            for (int n = 2; n <= 8; n++) {
                for (int degree = 0; degree < n; degree++) {
                    TurnedRing ring = field(m, m - 1, "a=" + last + "*x^" + degree + ";").ring;
                    int due = n - degree <= FEW[m] ? 1 : -2;
                    Due.due("M " + m + ", length " + n + ", degree " + degree, ring.weight(0, n), due);
                }
                StringBuilder all = new StringBuilder("a=1");
                for (int j = 1; j < n; j++) {
                    all.append("+").append(last).append("*x^").append(j);
                }
                TurnedRing full = field(m, m - 1, all + ";").ring;
                Due.due("M " + m + ", all " + n + " numbers", full.weight(0, n), n);
            }
        }
    }

    /** POINTS (1 to 8 numbers): their RANK; NONE: not as told. */
    private static void points() {
        for (int m = 1; m <= 8; m++) {
            Probe probe = field(m, 0, "a=1;");
            int last = (1 << m) - 1;
            for (int count = 0; count <= 20; count++) {
                boolean told = count >= 1 && count <= 8;
                int[] bits = new int[count];
                for (int k = 0; k < count; k++) {
                    bits[k] = 1 << k % m;
                }
                int before = probe.ring.count(6);
                Due.due("bits " + count, probe.bytes(bits).ring.points(), told ? Math.min(count, m) : -1);
                Due.due("how many " + count, probe.ring.count(6), told ? count : before);
                Due.due("zeros " + count, probe.bytes(new int[count]).ring.points(), told ? 0 : -1);
                Due.due("last ones " + count, probe.bytes(row(count, last)).ring.points(), told ? 1 : -1);
            }
        }
    }

    /** NONE: not as told: the POINTS stay. */
    private static void pointsStay() {
        Probe probe = field(2, 1, "a=x+1;b=1;");
        Due.due("no POINTS", probe.ring.word(1, 0), -1);
        Due.due("not as told ahead of any", probe.bytes().ring.points(), -1);
        Due.due("no POINTS yet", probe.ring.count(6), 0);
        Due.due("POINTS", probe.bytes(3, 1, 2).ring.points(), 2);
        int[][] odd = {{}, new int[9], new int[16], {4}, {1, 4}, {4, 1}, {0, 1, 2, 3, 0, 1, 2, 255}, new int[540]};
        for (int[] tape : odd) {
            Due.due("points of " + Arrays.toString(tape), probe.bytes(tape).ring.points(), -1);
            Due.due("POINTS stay", probe.ring.count(6), 3);
            Due.due("the first", probe.ring.word(1, 0), 3);
            Due.due("the next", probe.ring.word(1, 1), 1);
            Due.due("the last", probe.ring.word(1, 2), 2);
            Due.due("none behind", probe.ring.word(1, 3), -1);
        }
        Due.due("fewer POINTS", probe.bytes(0).ring.points(), 0);
        Due.due("one is left", probe.ring.count(6), 1);
        Due.due("the old ones are gone", probe.ring.word(1, 1), -1);
    }

    /** The p-th number of the word of NAME i; NONE: no such ones. */
    private static void wordPlaces() {
        for (int count = 0; count <= 8; count++) {
            Probe probe = field(3, 1, "a=0;b=1;c=x;d=x^16;");
            if (count > 0) {
                probe.bytes(row(count, 7, 5, 0)).ring.points();
            }
            for (int p = -2; p <= 17; p++) {
                boolean told = p >= 0 && p < count;
                int point = p < 0 ? 0 : row(p + 1, 7, 5, 0)[p];
                Due.due("word of 0 at " + p, probe.ring.word(0, p), told ? 0 : -1);
                Due.due("word of 1 at " + p, probe.ring.word(1, p), told ? point : -1);
                Due.due("word of x at " + p, probe.ring.word(2, p), told ? probe.ring.turned(point, 1) : -1);
                Due.due("word of x^16 at " + p, probe.ring.word(3, p), told ? probe.ring.turned(point, 16) : -1);
                for (int i : NO_NAMES) {
                    Due.due("word of " + i, probe.ring.word(i, p), -1);
                }
            }
            for (int p : new int[] {Integer.MAX_VALUE, Integer.MIN_VALUE, 1 << 30}) {
                Due.due("word at " + p, probe.ring.word(1, p), -1);
            }
        }
    }

    /** DISTANCE of dimension k (1 to POINTS); mend(k), too. */
    private static void dimensions() {
        for (int count = 0; count <= 8; count++) {
            Probe probe = new Probe();
            if (count > 0) {
                probe.bytes(row(count, 1)).ring.points();
            }
            int[] zeros = new int[count];
            for (int k = -2; k <= 17; k++) {
                boolean told = k >= 1 && k <= count;
                Due.due("distance " + k + " of " + count, probe.ring.distance(k), told ? k == 1 ? 1 : 0 : -2);
                int due = !told ? -3 : k == 1 && count < 3 ? -1 : -2;
                Due.due("mend " + k + " of " + count, probe.bytes(zeros).ring.mend(k), due);
            }
            for (int k : new int[] {1 << 28, 1 << 29, 1 << 30, Integer.MAX_VALUE, Integer.MIN_VALUE, Integer.MIN_VALUE + 1}) {
                Due.due("distance " + k + " of " + count, probe.ring.distance(k), -2);
                Due.due("mend " + k + " of " + count, probe.bytes(zeros).ring.mend(k), -3);
            }
        }
    }

    /** More than 4096 (2^M)^k. */
    private static void distancesOfFew() {
        for (int m = 1; m <= 8; m++) {
            Probe probe = field(m, m - 1, "");
            int[] bits = new int[m];
            for (int k = 0; k < m; k++) {
                bits[k] = 1 << k;
            }
            Due.due("RANK of all bits", probe.bytes(bits).ring.points(), m);
            for (int k = 1; k <= m; k++) {
                boolean told = k <= FEW[m];
                Due.due("distance " + k + ", M " + m, probe.ring.distance(k), told ? m + 1 - k : -2);
                Due.due("mend " + k + ", M " + m, probe.bytes(new int[m]).ring.mend(k), told ? -1 : -3);
            }
            probe.bytes(new int[8]).ring.points();
            for (int k = 1; k <= 8; k++) {
                Due.due("distance of zeros " + k + ", M " + m, probe.ring.distance(k), k <= FEW[m] ? 0 : -2);
                Due.due("mend of zeros " + k + ", M " + m, probe.bytes(new int[8]).ring.mend(k), k <= FEW[m] ? -2 : -3);
            }
            for (int k : FAR) {
                Due.due("distance " + k + ", M " + m, probe.ring.distance(k), -2);
                Due.due("mend " + k + ", M " + m, probe.bytes(new int[8]).ring.mend(k), -3);
            }
        }
    }

    /** The tape's word (as many as POINTS); NONE - 2: not as told. */
    private static void mendsOddTapes() {
        for (int count = 1; count <= 8; count++) {
            Probe probe = field(4, 1, "a=9*x^16+5;");
            probe.ring.makes(0, 0, 0);
            probe.ring.divides(0, 0, 0);
            String before = probe.result(0) + "/" + probe.result(1);
            int[] points = row(count, 1, 2, 4, 8, 3, 5, 9, 6);
            probe.bytes(points).ring.points();
            for (int length = 0; length <= 20; length++) {
                if (length != count) {
                    Due.due("mend of " + length, probe.bytes(new int[length]).ring.mend(1), -3);
                }
            }
            Due.due("mend of a full tape", probe.bytes(new int[540]).ring.mend(1), -3);
            for (int k = 0; k < count; k++) {
                int[] odd = points.clone();
                odd[k] = 16;
                Due.due("no number at " + k, probe.bytes(odd).ring.mend(1), -3);
                odd[k] = 255;
                Due.due("255 at " + k, probe.bytes(odd).ring.mend(1), -3);
            }
            Due.due("RESULTS stay", probe.result(0) + "/" + probe.result(1), before);
            Due.due("the POINTS themselves", probe.bytes(points).ring.mend(1), 0);
            Due.due("are the word of 1", probe.result(0), "1");
        }
        Due.due("without POINTS", new TurnedRing().mend(1), -3);
        Due.due("without POINTS, dimension 0", new TurnedRing().mend(0), -3);
    }

    /** The tape's word is its first bytes alone, as many as POINTS; of eight numbers of eight bits, too. */
    private static void mendsBytesBehind() {
        Probe probe = field(8, 1, "");
        int[] points = {1, 2, 4, 8, 16, 32, 64, 128};
        probe.bytes(points).ring.points();
        for (int junk : new int[] {0, 2, 85, 254, 255}) {
            int[] tape = row(40, junk);
            System.arraycopy(points, 0, tape, 0, 8);
            tape[5] ^= 1;
            tape[6] ^= 2;
            tape[7] ^= 4;
            probe.bytes(tape).ring.end(8);
            Due.due("RANK 3 of seven left, ahead of " + junk, probe.ring.mend(1), 0);
            Due.due("it", probe.result(0), "1");
            tape[4] ^= 8;
            probe.bytes(tape).ring.end(8);
            Due.due("RANK 4 of seven left, ahead of " + junk, probe.ring.mend(1), -2);
        }
    }

    /** By a RANK of (POINTS less k) by 2, cut, or less. */
    private static void mendsCut() {
        for (int count = 1; count <= 6; count++) {
            for (int k = 1; k <= count && k <= 2; k++) {
                Probe probe = field(6, 1, "");
                int[] points = row(count, 1, 2, 4, 8, 16, 32);
                probe.bytes(points).ring.points();
                int radius = (count - k) / 2;
                for (int rank = 0; rank <= radius && rank <= 6; rank++) {
                    int[] word = points.clone();
                    for (int p = 0; p < rank; p++) {
                        word[p] ^= 1 << (p + 3) % 6;
                    }
                    Due.due(count + " less " + k + ", RANK " + rank, probe.bytes(word).ring.mend(k), 0);
                    Due.due("it", probe.result(0), "1");
                }
                int[] zeros = new int[count];
                Due.due("0 itself", probe.bytes(zeros).ring.mend(k), -1);
                Due.due("is 0", probe.result(0), "");
            }
        }
        Probe probe = field(6, 1, "");
        probe.bytes(1, 2, 4, 8).ring.points();
        Due.due("RANK 1 of three left", probe.bytes(1 ^ 7, 2, 4 ^ 7, 8).ring.mend(1), 0);
        Due.due("RANK 2 of three left", probe.bytes(1 ^ 7, 2 ^ 9, 4, 8).ring.mend(1), -2);
        Due.due("RANK 1 of two left", probe.bytes(1 ^ 7, 2 ^ 7, 4 ^ 7, 8 ^ 7).ring.mend(2) >= -1, true);
        Due.due("RANK 2 of two left", probe.bytes(1 ^ 7, 2 ^ 9, 4, 8).ring.mend(2), -2);
        probe.bytes(1, 2).ring.points();
        Due.due("RANK 0 of one left", probe.bytes(1, 2).ring.mend(1), 0);
        Due.due("RANK 1 of one left", probe.bytes(1, 3).ring.mend(1), -2);
        Due.due("RANK 0 of none left", probe.bytes(1, 3).ring.mend(2), 1);
    }

    /** None, if there is none or more than one; its degree (-1 for 0). */
    private static void mendsNoneOrSome() {
        Probe probe = field(3, 1, "a=7*x^2+3;");
        probe.ring.makes(0, 0, 1);
        String before = probe.result(0);
        probe.bytes(0, 0, 0).ring.points();
        Due.due("all are near", probe.bytes(0, 0, 0).ring.mend(1), -2);
        Due.due("all are near by RANK 1", probe.bytes(1, 1, 0).ring.mend(1), -2);
        Due.due("none is near", probe.bytes(1, 2, 0).ring.mend(1), -2);
        Due.due("RESULT 0 stays", probe.result(0), before);
        probe.bytes(1, 2, 4).ring.points();
        Due.due("one is near", probe.bytes(1, 2, 4).ring.mend(3), 0);
        Due.due("of the highest degree", probe.bytes(5, 0, 7).ring.mend(3) <= 2, true);
        Due.due("it is near to all", probe.ring.resultDegree(0) >= 0, true);
        Due.due("0 is near", probe.bytes(0, 0, 0).ring.mend(3), -1);
        Due.due("RESULT 0 is 0", probe.ring.resultDegree(0), -1);
    }

    /** REGISTER of a row (1 to 16 numbers): the least L. */
    private static void registersOfEachLength() {
        for (int m = 1; m <= 8; m++) {
            int last = (1 << m) - 1;
            Probe probe = field(m, m - 1, "");
            for (int count = 0; count <= 20; count++) {
                boolean told = count >= 1 && count <= 16;
                Due.due("zeros " + count, probe.bytes(new int[count]).ring.register(), told ? 0 : -1);
                Due.due("no tap of zeros", told ? probe.ring.tap(1) : -1, -1);
                Due.due("ones " + count, probe.bytes(row(count, 1)).ring.register(), told ? 1 : -1);
                Due.due("tap of ones", told ? probe.ring.tap(1) : 0, told && count > 1 ? 1 : 0);
                int[] late = new int[count];
                if (count > 0) {
                    late[count - 1] = last;
                }
                Due.due("late " + count, probe.bytes(late).ring.register(), told ? count : -1);
                for (int i = 1; i <= count && told; i++) {
                    Due.due("tap of late " + i, probe.ring.tap(i), 0);
                }
                int[] early = new int[count];
                if (count > 0) {
                    early[0] = last;
                }
                Due.due("early " + count, probe.bytes(early).ring.register(), told ? 1 : -1);
                Due.due("tap of early", told ? probe.ring.tap(1) : 0, 0);
            }
        }
    }

    /** NONE: not as told. */
    private static void registersRefused() {
        for (int m = 1; m < 8; m++) {
            Probe probe = field(m, 0, "");
            Due.due("ahead of any", probe.ring.tap(1), -1);
            Due.due("refused ahead of any", probe.bytes().ring.register(), -1);
            Due.due("ahead of any yet", probe.ring.tap(1), -1);
            Due.due("of ones", probe.bytes(1, 1).ring.register(), 1);
            for (int count = 1; count <= 16; count++) {
                for (int k = 0; k < count; k++) {
                    int[] odd = row(count, 1);
                    odd[k] = 1 << m;
                    Due.due("no number at " + k, probe.bytes(odd).ring.register(), -1);
                }
            }
            Due.due("of 17", probe.bytes(new int[17]).ring.register(), -1);
            Due.due("of 540", probe.bytes(new int[540]).ring.register(), -1);
            Due.due("of none", probe.bytes().ring.register(), -1);
            Due.due("the latest that was not NONE", probe.ring.tap(1), 1);
        }
    }

    /** Of several the one with the least c1, then c2, and so on. */
    private static void leastTaps() {
        Naive naive = new Naive(2, 7, 1, 0);
        Probe probe = Probe.of(naive.script());
        for (int count = 1; count <= 5; count++) {
            for (int code = 0; code < 1 << 2 * count; code++) {
                int[] row = new int[count];
                for (int k = 0; k < count; k++) {
                    row[k] = code >> 2 * k & 3;
                }
                int[] due = naive.register(row);
                if (code % 200 == 0) {
                    probe = Probe.of(naive.script());
                }
                Due.due("register of " + Arrays.toString(row), probe.bytes(row).ring.register(), due.length);
                for (int i = 1; i <= due.length; i++) {
                    Due.due("tap " + i + " of " + Arrays.toString(row), probe.ring.tap(i), due[i - 1]);
                }
            }
        }
    }

    /** c of place i (1 to L); NONE: there is none such, or ahead of any. */
    private static void tapPlaces() {
        TurnedRing none = new TurnedRing();
        Probe probe = field(4, 1, "a=x;");
        for (int count = 1; count <= 16; count++) {
            int[] row = new int[count];
            row[count - 1] = 15;
            Due.due("L", probe.bytes(row).ring.register(), count);
            for (int i = -2; i <= 20; i++) {
                Due.due("tap " + i + " of " + count, probe.ring.tap(i), i >= 1 && i <= count ? 0 : -1);
                Due.due("tap " + i + " ahead of any", none.tap(i), -1);
            }
            for (int i : new int[] {Integer.MAX_VALUE, Integer.MIN_VALUE, 1 << 30}) {
                Due.due("tap " + i, probe.ring.tap(i), -1);
            }
        }
        Due.due("a shorter one behind", probe.bytes(3, 3, 3).ring.register(), 1);
        Due.due("its tap", probe.ring.tap(1), probe.ring.times(3, inverse(probe.ring, probe.ring.turned(3, 1))));
        Due.due("no tap of the longer one", probe.ring.tap(2), -1);
        int tap = probe.ring.tap(1);
        probe.ring.image(0);
        probe.script("field 2 7;");
        Due.due("it stays by a SCRIPT", probe.ring.tap(1), tap);
        probe.ring.restore(0);
        Due.due("it stays by a restore", probe.ring.tap(1), tap);
        probe.script("@");
        probe.bytes(1).ring.rank();
        probe.bytes(1).ring.points();
        Due.due("it stays by others", probe.ring.tap(1), tap);
        Due.due("of one that is 0", probe.bytes(0).ring.register(), 0);
        Due.due("no tap of it", probe.ring.tap(1), -1);
    }

    private static int inverse(TurnedRing ring, int a) {
        for (int b = 1; b < 16; b++) {
            if (ring.times(a, b) == 1) {
                return b;
            }
        }
        return 0;
    }
}
