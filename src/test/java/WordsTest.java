import java.util.Arrays;
import java.util.Random;

/** Promises 30 to 38: words by rank, cyclic words, codes of points, words mended, registers. */
final class WordsTest {
    private static final String FOUR = "field 2 7;turn 1;slope 1;";
    private static final String EIGHT = "field 8 283;turn 1;slope 5;";
    private static final int[] ODD = {-1, 12, 99, Integer.MAX_VALUE, Integer.MIN_VALUE};

    private WordsTest() {
    }

    public static void main(String[] args) {
        ranks();
        sumRanks();
        weights();
        points();
        distances();
        mends();
        registers();
        Due.close("WordsTest");
    }

    private static void ranks() {
        Probe probe = Probe.of(EIGHT);
        int[][] words = {{0}, {1}, {255}, {0, 0, 0}, {1, 2, 3}, {1, 2, 4, 8, 16, 32, 64, 128}, {7, 7, 7},
            {1, 2, 4, 8, 16, 32, 64, 128, 255, 254, 3, 5, 9, 17, 33, 65}, new int[16], {128, 129, 1}, {3, 5, 6, 9}};
        int[] due = {0, 1, 1, 0, 2, 8, 1, 8, 0, 2, 3};
        for (int k = 0; k < words.length; k++) {
            Due.due("rank of " + Arrays.toString(words[k]), probe.bytes(words[k]).ring.rank(), due[k]);
        }
        Due.due("no numbers", probe.bytes().ring.rank(), -1);
        Due.due("17 numbers", probe.bytes(new int[17]).ring.rank(), -1);
        Due.due("540 numbers", probe.bytes(new int[540]).ring.rank(), -1);
        Probe four = Probe.of(FOUR);
        Due.due("no number", four.bytes(1, 2, 4).ring.rank(), -1);
        Due.due("no number ahead", four.bytes(255, 2, 1).ring.rank(), -1);
        Due.due("all numbers", four.bytes(0, 1, 2, 3).ring.rank(), 2);
    }

    private static void sumRanks() {
        Probe probe = Probe.of(FOUR);
        sumRank(probe, 1, 1, 1, 3);
        sumRank(probe, 0, 1, 1, 0);
        sumRank(probe, 2, 2, 1, 1, 1, 1);
        sumRank(probe, 1, 1, 2, 1, 1);
        sumRank(probe, 3, 2, 2, 1, 1, 2, 3);
        sumRank(probe, 3, 2, 1, 2, 2, 1, 3);
        sumRank(probe, 4, 2, 8, 8, 1, 2, 3, 0, 1, 2, 3, 0, 1, 2, 3, 0, 1, 2, 3, 0);
        sumRank(probe, 8, 8, 1, 1, 1, 1, 1, 1, 1, 1, 1, 2, 3, 1, 2, 3, 1, 2);
        sumRank(probe, 2, 1, 16, 1, 2, 3, 0, 1, 2, 3, 0, 1, 2, 3, 0, 1, 2, 3, 0);
        int[][] odd = {{}, {0}, {1}, {1, 1}, {1, 0}, {1, 0, 1}, {2, 1, 0, 1}, {2, 1, 1, 1}, {1, 1, 1, 1}, {1, 2, 1}, {1, 1, 4},
            {9, 1, 1, 1, 1, 1, 1, 1, 1, 1, 1, 1, 1, 1, 1, 1, 1, 1, 1}, {255, 1}, {1, 255, 1}, {2, 1, 1, 1, 4},
            {1, 17, 1, 1, 1, 1, 1, 1, 1, 1, 1, 1, 1, 1, 1, 1, 1, 1, 1}, {0, 1, 1}, {8, 1, 1}, {3, 1, 1}, new int[540]};
        for (int[] tape : odd) {
            sumRank(probe, -1, tape);
        }
        int[] seventeen = new int[20];
        seventeen[0] = 2;
        seventeen[1] = 8;
        seventeen[2] = 9;
        sumRank(probe, -1, seventeen);
    }

    private static void sumRank(Probe probe, int due, int... tape) {
        Due.due("sumRank of " + Arrays.toString(tape), probe.bytes(tape).ring.sumRank(), due);
    }

    private static void weights() {
        Probe probe = Probe.of("a=x+1;b=1;c=0;d=x^3+x+1;e=x^7;f=x^8;g=x^2;");
        int[][] due = {{0, 2, 2}, {0, 8, 2}, {1, 2, 1}, {1, 8, 1}, {3, 4, 3}, {3, 7, 3}, {4, 8, 1}, {6, 3, 1}, {6, 2, -2},
            {0, 1, -2}, {1, 1, -2}, {0, 9, -2}, {0, 0, -2}, {0, -1, -2}, {2, 4, -2}, {5, 8, -2}, {4, 7, -2}, {3, 3, -2},
            {3, 2, -2}, {0, 1073741824, -2}, {0, Integer.MAX_VALUE, -2}, {0, Integer.MIN_VALUE, -2}};
        for (int[] row : due) {
            Due.due("weight " + row[0] + " " + row[1], probe.ring.weight(row[0], row[1]), row[2]);
        }
        for (int odd : ODD) {
            Due.due("weight of " + odd, probe.ring.weight(odd, 4), -2);
        }
        Probe four = Probe.of(FOUR + "a=x+2;b=3*x^2+x+2;c=2;");
        Naive naive = new Naive(2, 7, 1, 1);
        for (int i = 0; i < 3; i++) {
            int[] g = four.numbersOfName(i);
            for (int n = 2; n <= 8; n++) {
                int words = n - Naive.deg(g);
                int want = words < 1 || words > 6 ? -2 : words > 4 ? four.ring.weight(i, n) : naive.weight(g, n);
                Due.due("weight of four " + i + " " + n, four.ring.weight(i, n), want);
                Due.due("weight of four is told " + i + " " + n, four.ring.weight(i, n) > 0, words >= 1 && words <= 6);
            }
        }
        int[][] limits = {{3, 11, 4}, {4, 19, 3}, {5, 37, 2}, {6, 67, 2}, {7, 131, 1}, {8, 283, 1}};
        for (int[] row : limits) {
            String field = "field " + row[0] + " " + row[1] + ";";
            TurnedRing ring = Probe.of(field + "a=x^3+1;b=x^2+x;").ring;
            Due.due("weight, most of " + row[0], ring.weight(0, 3 + row[2]), 2);
            Due.due("weight above the most of " + row[0], ring.weight(0, 4 + row[2]), -2);
            Due.due("weight of another above the most", ring.weight(1, 3 + row[2]), -2);
        }
    }

    private static void points() {
        Probe probe = Probe.of(FOUR + "a=x;b=0;c=2*x^2+x+3;d=x^16;");
        Due.due("points", probe.bytes(1, 2, 3).ring.points(), 2);
        Due.due("how many", probe.ring.count(6), 3);
        Naive naive = new Naive(2, 7, 1, 1);
        words(probe, naive, 1, 2, 3);
        int[][] odd = {{}, new int[9], {1, 4}, {255}, new int[540]};
        for (int[] tape : odd) {
            Due.due("points of " + Arrays.toString(tape), probe.bytes(tape).ring.points(), -1);
            words(probe, naive, 1, 2, 3);
        }
        Due.due("other points", probe.bytes(3, 3, 0, 0, 0, 0, 0, 3).ring.points(), 1);
        Due.due("how many", probe.ring.count(6), 8);
        words(probe, naive, 3, 3, 0, 0, 0, 0, 0, 3);
        Due.due("a point", probe.bytes(0).ring.points(), 0);
        words(probe, naive, 0);
        for (int name : ODD) {
            Due.due("word of " + name, probe.ring.word(name, 0), -1);
        }
        Due.due("word of no name", probe.ring.word(4, 0), -1);
        probe.ring.keep(0, 0);
        Due.due("points stay behind keep", probe.ring.count(6), 1);
        probe.ring.undo();
        Due.due("points stay behind undo", probe.ring.count(6), 1);
        Due.due("rank of eight", Probe.of(EIGHT).bytes(1, 2, 4, 8, 16, 32, 64, 128).ring.points(), 8);
    }

    private static void words(Probe probe, Naive naive, int... points) {
        Due.due("points", probe.ring.count(6), points.length);
        for (int i = 0; i < probe.ring.count(5); i++) {
            int[] word = naive.word(probe.numbersOfName(i), points);
            for (int p = 0; p < points.length; p++) {
                Due.due("word " + i + " " + p, probe.ring.word(i, p), word[p]);
            }
            for (int p : new int[] {-1, points.length, 8, Integer.MAX_VALUE, Integer.MIN_VALUE}) {
                Due.due("word " + i + " " + p, probe.ring.word(i, p), p == 8 && points.length > 8 ? 0 : -1);
            }
        }
    }

    private static void distances() {
        Probe probe = Probe.of("field 3 11;turn 1;");
        Due.due("no points", probe.ring.distance(1), -2);
        probe.bytes(1, 2, 4).ring.points();
        int[] due = {-2, 3, 2, 1, -2, -2};
        for (int k = 0; k < due.length; k++) {
            Due.due("distance " + k, probe.ring.distance(k), due[k]);
        }
        probe.bytes(1, 2, 3, 4, 5).ring.points();
        Due.due("points that are sums", probe.ring.distance(3), 1);
        Due.due("of as many as numbers", probe.ring.distance(4), 0);
        Due.due("above 4096", probe.ring.distance(5), -2);
        for (int odd : new int[] {-1, 0, 6, 1 << 28, 1 << 29, 1 << 30, Integer.MAX_VALUE, Integer.MIN_VALUE}) {
            Due.due("distance " + odd, probe.ring.distance(odd), -2);
        }
        probe.bytes(0, 0).ring.points();
        Due.due("of points 0", probe.ring.distance(1), 0);
        int[][] limits = {{1, 3, 8}, {2, 7, 6}, {4, 19, 3}, {5, 37, 2}, {6, 67, 2}, {7, 131, 1}, {8, 283, 1}};
        for (int[] row : limits) {
            Probe other = Probe.of("field " + row[0] + " " + row[1] + ";");
            other.bytes(0, 1, 0, 1, 0, 1, 0, 1).ring.points();
            Due.due("most of " + row[0], other.ring.distance(row[2]) >= 0, true);
            Due.due("above the most of " + row[0], other.ring.distance(row[2] + 1), -2);
            Due.due("word mended, above the most of " + row[0], other.bytes(new int[8]).ring.mend(row[2] + 1), -3);
            Due.due("word mended, most of " + row[0], other.bytes(new int[8]).ring.mend(row[2]) > -3, true);
        }
    }

    private static void mends() {
        Probe probe = Probe.of("field 4 19;turn 1;a=7*x+3;");
        Due.due("no points", probe.bytes().ring.mend(1), -3);
        Due.due("no points, one number", probe.bytes(1).ring.mend(1), -3);
        probe.bytes(1, 2, 4, 8).ring.points();
        int[] word = new int[4];
        for (int p = 0; p < 4; p++) {
            word[p] = probe.ring.word(0, p);
        }
        Due.due("a word as it is", probe.bytes(word).ring.mend(2), 1);
        Due.due("its polynomial", probe.result(0), "3 7");
        Due.due("not of that degree", probe.bytes(word).ring.mend(1), -2);
        Due.due("result stays", probe.result(0), "3 7");
        spoilt(probe, word, 9, 1);
        spoilt(probe, word, 15, 15);
        spoilt(probe, word, 6, 10);
        Due.due("0", probe.bytes(0, 0, 0, 0).ring.mend(2), -1);
        Due.due("its polynomial", probe.result(0), "");
        Due.due("near 0", probe.bytes(0, 5, 5, 0).ring.mend(2), -1);
        probe.ring.makes(0, 0, 1);
        String before = probe.result(0);
        int[] far = word.clone();
        far[0] ^= 1;
        far[1] ^= 2;
        Due.due("too far", probe.bytes(far).ring.mend(3), -2);
        int[][] odd = {{}, {1, 2, 3}, {1, 2, 3, 4, 5}, {1, 2, 3, 16}, {255, 0, 0, 0}, new int[540]};
        for (int[] tape : odd) {
            Due.due("mend " + Arrays.toString(tape), probe.bytes(tape).ring.mend(2), -3);
        }
        for (int k : new int[] {0, -1, 4, 5, 1 << 30, Integer.MAX_VALUE, Integer.MIN_VALUE}) {
            Due.due("mend by " + k, probe.bytes(0, 0, 0, 0).ring.mend(k), -3);
        }
        Due.due("result stays", probe.result(0), before);
        moreThanOne();
    }

    /** RANK 1 differs, in as many places as it will. */
    private static void spoilt(Probe probe, int[] word, int places, int by) {
        int[] told = word.clone();
        for (int p = 0; p < told.length; p++) {
            told[p] ^= (places >> p & 1) == 1 ? by : 0;
        }
        Due.due("mended " + places + " " + by, probe.bytes(told).ring.mend(2), 1);
        Due.due("polynomial mended " + places + " " + by, probe.result(0), "3 7");
    }

    private static void moreThanOne() {
        Probe probe = Probe.of(FOUR);
        probe.bytes(0, 0, 0).ring.points();
        Due.due("more than one", probe.bytes(0, 0, 0).ring.mend(1), -2);
        probe.bytes(1, 1, 1, 1).ring.points();
        Due.due("more than one by a rank", probe.bytes(1, 0, 0, 0).ring.mend(2), -2);
        probe.bytes(1, 2).ring.points();
        Due.due("cut to none", probe.bytes(3, 1).ring.mend(1), 0);
        Due.due("its number", probe.result(0), "3");
        Due.due("none", probe.bytes(3, 2).ring.mend(1), -2);
    }

    private static void registers() {
        Probe probe = Probe.of(FOUR);
        register(probe, new int[] {0}, 0);
        register(probe, new int[16], 0);
        register(probe, new int[] {1}, 1, 0);
        register(probe, new int[] {0, 1}, 2, 0, 0);
        register(probe, new int[] {1, 1, 0, 1}, 2, 1, 1);
        register(probe, new int[] {2, 3, 2, 3, 2}, 1, 1);
        register(probe, new int[] {2, 2, 2}, 1, 3);
        register(probe, new int[] {0, 0, 0, 3}, 4, 0, 0, 0, 0);
        register(probe, new int[] {1, 0, 1, 0, 1}, 2, 0, 1);
        register(probe, new int[] {1, 0, 2}, 2, 0, 2);
        int[] last = new int[16];
        last[15] = 1;
        register(probe, last, 16, new int[16]);
        int[][] odd = {{}, new int[17], {1, 4}, {255, 1}, new int[540]};
        register(probe, new int[] {1, 1, 0, 1}, 2, 1, 1);
        for (int[] tape : odd) {
            Due.due("register of " + Arrays.toString(tape), probe.bytes(tape).ring.register(), -1);
            taps(probe, 1, 1);
        }
        probe.script("field 3 11;");
        taps(probe, 1, 1);
        Due.due("register of 0", probe.bytes(0, 0).ring.register(), 0);
        taps(probe);
        longOnes();
    }

    private static void register(Probe probe, int[] row, int length, int... taps) {
        Due.due("register of " + Arrays.toString(row), probe.bytes(row).ring.register(), length);
        taps(probe, taps);
    }

    private static void taps(Probe probe, int... taps) {
        for (int i = 1; i <= taps.length; i++) {
            Due.due("tap " + i, probe.ring.tap(i), taps[i - 1]);
        }
        for (int i : new int[] {0, -1, taps.length + 1, 17, 18, Integer.MAX_VALUE, Integer.MIN_VALUE}) {
            Due.due("no tap " + i, probe.ring.tap(i), -1);
        }
    }

    /** Rows that a register made: never a longer one is found, and what is found makes the row. */
    private static void longOnes() {
        Random random = new Random(3);
        for (int[] told : new int[][] {{3, 11, 1, 2}, {4, 19, 3, 0}, {8, 283, 5, 9}, {5, 37, 2, 1}}) {
            Naive naive = new Naive(told[0], told[1], told[2], told[3]);
            for (int k = 0; k < 40; k++) {
                int length = 1 + random.nextInt(7);
                int[] row = new int[16];
                int[] taps = new int[length];
                for (int i = 0; i < length; i++) {
                    row[i] = random.nextInt(naive.size);
                    taps[i] = random.nextInt(naive.size);
                }
                for (int j = length; j < 16; j++) {
                    for (int i = 1; i <= length; i++) {
                        row[j] ^= naive.mul(taps[i - 1], naive.t(row[j - i], i));
                    }
                }
                Probe probe = Probe.of(naive.script());
                int found = probe.bytes(row).ring.register();
                Due.due("no longer than " + length, found >= 0 && found <= length, true);
                for (int j = found; j < 16; j++) {
                    int sum = 0;
                    for (int i = 1; i <= found; i++) {
                        sum ^= naive.mul(probe.ring.tap(i), naive.t(row[j - i], i));
                    }
                    Due.due("row of " + Arrays.toString(row) + " " + j, sum, row[j]);
                }
            }
        }
    }
}
