import java.util.Arrays;
import java.util.List;
import java.util.Random;

/** Promises 6 to 37 on many small fields and polynomials, against what the document tells worked out naively. */
final class AgainstNaive {
    private static final int[][] FIELDS = {
        {1, 3, 0, 0}, {1, 2, 0, 1}, {2, 7, 0, 2}, {2, 7, 1, 0}, {2, 7, 1, 1}, {2, 7, 1, 3}, {3, 11, 0, 5},
        {3, 11, 1, 0}, {3, 13, 2, 6}, {3, 11, 2, 3}, {4, 19, 2, 0}, {4, 25, 2, 7}, {4, 31, 1, 9}, {4, 19, 3, 2},
        {5, 37, 2, 17}, {6, 67, 3, 40}, {8, 283, 4, 77}, {8, 285, 3, 200}};

    private final Random random = new Random(41);
    private final Naive naive;
    private final String field;

    private AgainstNaive(int[] told) {
        naive = new Naive(told[0], told[1], told[2], told[3]);
        field = naive.script();
    }

    public static void main(String[] args) {
        for (int[] told : FIELDS) {
            AgainstNaive test = new AgainstNaive(told);
            test.numbers();
            for (int k = 0; k < 12; k++) {
                test.products();
                test.partsAndMultiples();
                test.placesOf();
                test.splitting();
                test.words();
                test.codes();
                test.registers();
            }
        }
        Due.close("AgainstNaive");
    }

    private int[] polynomial(int most) {
        int[] f = new int[random.nextInt(most + 2)];
        for (int j = 0; j < f.length; j++) {
            f[j] = random.nextInt(4) == 0 ? random.nextInt(2) : random.nextInt(naive.size);
        }
        return Naive.trim(f);
    }

    /** Written as a sum, the highest power first. */
    static String written(int[] f) {
        StringBuilder text = new StringBuilder("0");
        for (int j = f.length - 1; j >= 0; j--) {
            text.append('+').append(f[j]).append("*x^").append(j);
        }
        return text.toString();
    }

    private Probe named(int[]... all) {
        StringBuilder text = new StringBuilder(field);
        for (int k = 0; k < all.length; k++) {
            text.append((char) ('a' + k)).append('=').append(written(all[k])).append(';');
        }
        return Probe.of(text.toString());
    }

    private String about(int[]... all) {
        return field + Arrays.deepToString(all) + " ";
    }

    private static String text(int[] f) {
        return Arrays.toString(f);
    }

    private void numbers() {
        TurnedRing ring = named().ring;
        Due.due(field + "round", ring.count(4), naive.round);
        for (int a = 0; a < naive.size; a++) {
            for (int b = 0; b < naive.size; b += 1 + naive.size / 20) {
                Due.due(field + "times " + a + " " + b, ring.times(a, b), naive.mul(a, b));
                Due.due(field + "kin " + a + " " + b, ring.kin(a, b), naive.kin(a, b));
            }
            Due.due(field + "slope " + a, ring.slope(a), naive.d(a));
            for (int k = 0; k < 12; k++) {
                Due.due(field + "turned " + a + " " + k, ring.turned(a, k), naive.t(a, k));
            }
        }
        Due.due(field + "classes", ring.classes(), naive.classes());
    }

    private void products() {
        int[] f = polynomial(6);
        int[] g = polynomial(6);
        Probe probe = named(f, g);
        String about = about(f, g);
        Due.due(about + "named", text(probe.numbersOfName(0)), text(f));
        int[] sum = Naive.add(f, g);
        Due.due(about + "makes 0", probe.ring.makes(0, 1, 0), Naive.deg(sum));
        Due.due(about + "sum", text(probe.numbersOfResult(0)), text(sum));
        int[] product = naive.times(f, g);
        Due.due(about + "makes 1", probe.ring.makes(0, 1, 1), Naive.deg(product));
        Due.due(about + "product", text(probe.numbersOfResult(0)), text(product));
        for (int side = 0; side < 2 && g.length > 0; side++) {
            int[][] by = naive.divide(side == 1, f, g);
            Due.due(about + "divides " + side, probe.ring.divides(0, 1, side), Naive.deg(by[1]));
            Due.due(about + "quotient " + side, text(probe.numbersOfResult(0)), text(by[0]));
            Due.due(about + "rest " + side, text(probe.numbersOfResult(1)), text(by[1]));
        }
    }

    private void partsAndMultiples() {
        int most = naive.m < 3 ? 2 : 1;
        int[] f = polynomial(most);
        int[] g = polynomial(most);
        int[] h = polynomial(1);
        for (int side = 0; side < 2; side++) {
            int[] one = side == 0 ? naive.times(f, h) : naive.times(h, f);
            int[] other = side == 0 ? naive.times(g, h) : naive.times(h, g);
            Probe probe = named(one, other);
            String about = about(one, other) + side;
            int[] part = naive.m > 4 ? null : naive.common(side == 1, one, other);
            int found = probe.ring.common(0, 1, side);
            if (part != null) {
                Due.due(about + " common", found, Naive.deg(part));
                Due.due(about + " part", text(probe.numbersOfResult(0)), text(part));
            }
            if (side == 0) {
                int[] u = probe.numbersOfResult(2);
                int[] v = probe.numbersOfResult(3);
                int[] made = Naive.add(naive.times(u, one), naive.times(v, other));
                Due.due(about + " u f + v g", text(made), text(probe.numbersOfResult(0)));
                Due.due(about + " u, v", text(u) + text(v), stepsOf(one, other));
            } else {
                Due.due(about + " u, v of old", probe.result(2) + probe.result(3), "");
            }
            if (naive.m <= 3) {
                int[] multiple = naive.multiple(side == 1, one, other);
                Due.due(about + " multiple", probe.ring.multiple(0, 1, side), Naive.deg(multiple));
                Due.due(about + " it", text(probe.numbersOfResult(0)), text(multiple));
            }
        }
    }

    /** u and v by the steps of dividing. */
    private String stepsOf(int[] f, int[] g) {
        int[][] now = {f, {1}, {}};
        int[][] next = {g, {}, {1}};
        while (next[0].length > 0) {
            int[] quotient = naive.divide(false, now[0], next[0])[0];
            int[][] behind = new int[3][];
            for (int k = 0; k < 3; k++) {
                behind[k] = Naive.add(now[k], naive.times(quotient, next[k]));
            }
            now = next;
            next = behind;
        }
        if (now[0].length == 0) {
            return "[][]";
        }
        int[] by = {naive.inv(now[0][now[0].length - 1])};
        return text(naive.times(by, now[1])) + text(naive.times(by, now[2]));
    }

    private void placesOf() {
        int[] f = polynomial(4);
        Probe probe = named(f);
        String about = about(f);
        int found = 0;
        for (int a = 0; a < naive.size; a++) {
            int value = naive.value(f, a);
            Due.due(about + "value " + a, probe.ring.value(0, a), value);
            if (value == 0) {
                Due.due(about + "root " + found, probe.ring.roots(0, found), a);
                found++;
            }
        }
        Due.due(about + "roots", probe.ring.roots(0, -1), found);
        Due.due(about + "root behind", probe.ring.roots(0, found), -1);
        for (int k = 0; k < 8; k++) {
            int a = random.nextInt(naive.size);
            int b = random.nextInt(naive.size);
            Due.due(about + "applied " + a + " " + b, probe.ring.applied(0, a, b), naive.applied(f, a, b));
        }
        if (naive.m > 4) {
            return;
        }
        int[] places = new int[random.nextInt(naive.m > 2 ? 3 : 6)];
        for (int k = 0; k < places.length; k++) {
            places[k] = random.nextInt(naive.size);
        }
        int[] least = naive.least(places);
        Due.due(about + "least " + text(places), probe.bytes(places).ring.least(), Naive.deg(least));
        Due.due(about + "it of " + text(places), text(probe.numbersOfResult(0)), text(least));
    }

    private void splitting() {
        int most = naive.m == 1 ? 6 : naive.m == 2 ? 4 : naive.m == 3 ? 3 : naive.m <= 5 ? 2 : 1;
        int[] f = random.nextBoolean() ? polynomial(most) : naive.times(polynomial(most / 2), polynomial(most - most / 2));
        if (f.length == 0) {
            return;
        }
        Probe probe = named(f);
        String about = about(f);
        for (int n = 0; n <= most && naive.m * n <= 8; n++) {
            List<Integer> due = naive.divisors(f, n);
            Due.due(about + "divisors " + n, probe.ring.divisors(0, n, -1), due.size());
            for (int k = 0; k < due.size() && k < 6; k++) {
                Due.due(about + "divisor " + n + " " + k, probe.ring.divisors(0, n, k), due.get(k));
            }
            Due.due(about + "divisor behind " + n, probe.ring.divisors(0, n, due.size()), -1);
        }
        if (naive.m <= 5) {
            factoringsOf(f, probe, about);
        }
        if (naive.round <= 4) {
            int[] norm = naive.norm(f);
            Due.due(about + "norm", probe.ring.norm(0), Naive.deg(norm));
            Due.due(about + "it", text(probe.numbersOfResult(0)), text(norm));
        }
        likesOf(most);
    }

    private void factoringsOf(int[] f, Probe probe, String about) {
        List<int[]> due = naive.factorings(f);
        Due.due(about + "factorings", probe.ring.factorings(0), due.size());
        for (int k = 0; k < due.size() && k < 12; k++) {
            int[] row = due.get(k);
            for (int p = 0; p < row.length; p++) {
                Due.due(about + "factor " + k + " " + p, probe.ring.factor(0, k, p), row[p]);
            }
            Due.due(about + "factor ahead", probe.ring.factor(0, k, -1), -1);
            Due.due(about + "factor behind", probe.ring.factor(0, k, row.length), -1);
        }
        Due.due(about + "factor of none", probe.ring.factor(0, due.size(), 0), -1);
        Due.due(about + "factor of none ahead", probe.ring.factor(0, -1, 0), -1);
    }

    private void likesOf(int most) {
        int n = Math.min(most, naive.m < 4 ? 2 : 1);
        int[] f = polynomial(n);
        int[] g = polynomial(n);
        if (random.nextBoolean()) {
            f = naive.times(new int[] {random.nextInt(naive.size), 1}, new int[] {random.nextInt(naive.size), n - 1});
            g = naive.times(new int[] {random.nextInt(naive.size), 1}, new int[] {random.nextInt(naive.size), n - 1});
        }
        if (f.length > 0 && g.length > 0) {
            Due.due(about(f, g) + "like", named(f, g).ring.like(0, 1), naive.like(f, g) ? 1 : 0);
        }
    }

    private int[] row(int length, int limit) {
        int[] row = new int[length];
        for (int k = 0; k < length; k++) {
            row[k] = random.nextInt(limit);
        }
        return row;
    }

    private void words() {
        Probe probe = named();
        int[] row = row(1 + random.nextInt(10), 1 + random.nextInt(naive.size));
        Due.due(field + "rank " + text(row), probe.bytes(row).ring.rank(), Naive.rank(row));
        int blocks = 1 + random.nextInt(5);
        int[] tape = new int[40];
        int end = 1 + blocks;
        int sum = 0;
        tape[0] = blocks;
        for (int b = 1; b <= blocks; b++) {
            int[] block = row(1 + random.nextInt(3), naive.size);
            tape[b] = block.length;
            System.arraycopy(block, 0, tape, end, block.length);
            end += block.length;
            sum += Naive.rank(block);
        }
        int[] told = Arrays.copyOf(tape, end);
        Due.due(field + "sumRank " + text(told), probe.bytes(told).ring.sumRank(), sum);
        int n = 2 + random.nextInt(7);
        int least = Math.max(0, n - 9 / naive.m);
        int[] g = row(least + 1 + random.nextInt(n - least), naive.size);
        g[g.length - 1] = 1 + random.nextInt(naive.size - 1);
        Due.due(about(g) + "weight " + n, named(g).ring.weight(0, n), naive.weight(g, n));
    }

    private void codes() {
        int[] points = row(1 + random.nextInt(Math.min(8, naive.m + 1)), naive.size);
        int[] f = polynomial(3);
        Probe probe = named(f);
        String about = about(points, f);
        Due.due(about + "points", probe.bytes(points).ring.points(), Naive.rank(points));
        int[] word = naive.word(f, points);
        for (int p = 0; p < word.length; p++) {
            Due.due(about + "word " + p, probe.ring.word(0, p), word[p]);
        }
        for (int k = 1; k <= points.length && k * naive.m <= 8; k++) {
            Due.due(about + "distance " + k, probe.ring.distance(k), naive.distance(points, k));
            int[] told = naive.word(naive.polynomialOf(random.nextInt(naive.many(k)), k), points);
            int spoiled = random.nextInt(3);
            for (int j = 0; j < told.length; j++) {
                told[j] ^= spoiled > 0 && random.nextBoolean() ? random.nextInt(naive.size) : 0;
            }
            List<int[]> near = naive.near(points, told, k);
            int due = near.size() == 1 ? Naive.deg(near.get(0)) : -2;
            String before = probe.result(0);
            Due.due(about + "mend " + k + text(told), probe.bytes(told).ring.mend(k), due);
            String after = near.size() == 1 ? text(near.get(0)) : "[" + before.replace(" ", ", ") + "]";
            Due.due(about + "it " + k + text(told), text(probe.numbersOfResult(0)), after);
        }
    }

    private void registers() {
        int[] row = row(1 + random.nextInt(naive.m == 1 ? 9 : naive.m == 2 ? 7 : naive.m < 5 ? 5 : 3), naive.size);
        for (int k = 0; k < row.length; k++) {
            row[k] = random.nextInt(3) == 0 ? 0 : row[k];
        }
        Probe probe = named();
        int[] taps = naive.register(row);
        Due.due(field + "register " + text(row), probe.bytes(row).ring.register(), taps.length);
        for (int i = 1; i <= taps.length; i++) {
            Due.due(field + "tap " + i + " of " + text(row), probe.ring.tap(i), taps[i - 1]);
        }
        Due.due(field + "tap 0", probe.ring.tap(0), -1);
        Due.due(field + "tap behind", probe.ring.tap(taps.length + 1), -1);
    }
}
