import java.util.ArrayList;
import java.util.Arrays;
import java.util.List;
import java.util.NoSuchElementException;
import java.util.Random;

/** Runs of all calls at random on one object, each answer against the one that PlainRing and PlainScript work out. */
final class PlainRuns {
    private static final int[] MODULI = {3, 2, 7, 11, 13, 19, 25, 31, 37, 67, 131, 283, 285};
    private static final String[] WHATS = {"quo", "rem", "lquo", "lrem", "gcd", "lgcd", "lcm", "llcm"};
    private static final String[] NAMES = {"a", "b", "f", "g", "word", "h", "i", "j", "k", "l", "m", "n", "o", "xx"};
    private static final int[] ODD = {-1, -2, -3, 4, 7, 9, 16, 17, 99, 100, 255, 256, Integer.MAX_VALUE, Integer.MIN_VALUE};
    /** What goes through so many polynomials takes so much longer here that it is not asked at each turn. */
    private static final int DEAR = 300;
    /** The last ones of a run may be some fifty calls more; 512 are promised. */
    private static final int MOST_ASKED = 440;

    /** What image() holds. */
    private static final class Held {
        PlainRing ring = new PlainRing(1, 3, 0, 0);
        List<int[]> names = new ArrayList<>();
        int[] points = {};
        List<int[]> undoTold = new ArrayList<>();
        List<Integer> undoNames = new ArrayList<>();

        Held copy() {
            Held held = new Held();
            held.ring = ring;
            held.names = new ArrayList<>(names);
            held.points = points;
            held.undoTold = new ArrayList<>(undoTold);
            held.undoNames = new ArrayList<>(undoNames);
            return held;
        }
    }

    private final TurnedRing asked = new TurnedRing();
    private final Random random;
    private final StringBuilder calls = new StringBuilder();
    private Held now = new Held();
    private final Held[] images = new Held[2];
    private final int[][] results = {{}, {}, {}, {}};
    private int[] tape = {};
    private int[] taps = {};
    private int fault = 0;
    private int asks = 0;

    private PlainRuns(int seed) {
        random = new Random(seed);
    }

    public static void main(String[] args) {
        int runs = args.length > 0 ? Integer.parseInt(args[0]) : 150;
        int from = args.length > 1 ? Integer.parseInt(args[1]) : 0;
        for (int seed = from; seed < from + runs; seed++) {
            new PlainRuns(seed).run(seed);
        }
        Due.close("PlainRuns");
    }

    private void run(int seed) {
        calls.append("run ").append(seed).append(": ");
        for (int k = 0; asks < MOST_ASKED; k++) {
            if (k == 0 || random.nextInt(40) == 0) {
                feed(bytesOf(random.nextInt(4) > 0 ? soundText() : text()));
                script();
                pointsOfRow();
            } else if (random.nextInt(8) == 0) {
                feed(row());
            }
            call(random.nextInt(random.nextInt(10) == 0 ? 43 : 41));
            compareSome();
        }
    }

    // What is asked

    private void due(String call, long got, long want) {
        asks++;
        calls.append(call).append("; ");
        Due.due(calls.length() > 900 ? "..." + calls.substring(calls.length() - 900) : calls.toString(), got, want);
    }

    private void due(String call, boolean got, boolean want) {
        due(call, got ? 1 : 0, want ? 1 : 0);
    }

    private int odd(int ordinary) {
        return random.nextInt(15) == 0 ? ODD[random.nextInt(ODD.length)] : ordinary;
    }

    private int name() {
        return odd(random.nextInt(now.names.size() + (random.nextInt(9) == 0 ? 1 : 0) + (now.names.isEmpty() ? 1 : 0)));
    }

    private int number() {
        return odd(random.nextInt(now.ring.size));
    }

    private int few(int most) {
        return odd(random.nextInt(most));
    }

    private int[] named(int i) {
        return i >= 0 && i < now.names.size() ? now.names.get(i) : null;
    }

    private boolean isDear(int count) {
        return count >= 0 && now.ring.isFew(count) && now.ring.count(count) > DEAR && random.nextInt(40) != 0;
    }

    private static int[] bytesOf(String text) {
        return text.chars().toArray();
    }

    /** Behind what the tape has, most of the time. */
    private void feed(int[] bytes) {
        if (random.nextInt(12) > 0) {
            end(0);
        }
        int from = tape.length;
        for (int k = 0; k < bytes.length; k += 20) {
            int[] words = new int[5];
            for (int j = 0; j < 20; j++) {
                int sign = k + j < bytes.length ? bytes[k + j] : random.nextInt(3);
                words[j / 4] = words[j / 4] << 8 | sign & 255;
            }
            feedWords(words);
        }
        end(from + bytes.length);
    }

    private void feedWords(int[] words) {
        boolean fits = tape.length + 20 <= 540;
        if (fits) {
            int length = tape.length;
            tape = Arrays.copyOf(tape, length + 20);
            for (int j = 0; j < 20; j++) {
                tape[length + j] = words[j / 4] >> (24 - j % 4 * 8) & 255;
            }
        }
        due("feed " + Arrays.toString(words), asked.feed(words[0], words[1], words[2], words[3], words[4]),
            fits ? tape.length : -1);
    }

    private void end(int n) {
        boolean told = n >= 0 && n <= tape.length;
        if (told) {
            tape = Arrays.copyOf(tape, n);
        }
        due("end " + n, asked.end(n), told);
    }

    private int[] row() {
        int length = random.nextInt(random.nextInt(3) == 0 ? 18 : 8);
        if (random.nextInt(3) == 0) {
            length = now.points.length;
        }
        int[] row = random.ints(length, 0, now.ring.size).toArray();
        if (length > 2 && random.nextInt(5) == 0) {
            Arrays.fill(row, random.nextInt(length), length, random.nextInt(2));
        }
        if (length > 0 && random.nextInt(12) == 0) {
            row[random.nextInt(length)] = random.nextInt(256);
        }
        return row;
    }

    // Texts

    private String soundText() {
        String text = text();
        for (int k = 0; k < 20 && new PlainScript(text).told.size() < 2; k++) {
            text = text();
        }
        return text;
    }

    private String text() {
        PlainRing ring = field();
        StringBuilder text = new StringBuilder();
        int heads = random.nextInt(10);
        if (ring.m > 1 || ring.p != 3 || heads == 0) {
            text.append("field ").append(ring.m).append(' ').append(ring.p).append(';');
        }
        if (ring.s > 0 || heads == 1) {
            text.append("turn ").append(ring.s).append(" ;\n");
        }
        if (ring.c > 0 || heads == 2) {
            text.append("slope ").append(ring.c).append(';');
        }
        int most = random.nextInt(3) == 0 ? 14 : 4;
        for (int k = 0; k < 1 + random.nextInt(most + 2); k++) {
            int names = k > 6 ? NAMES.length : Math.min(k + 1, NAMES.length);
            text.append(NAMES[random.nextInt(names)]).append(blank()).append('=');
            if (random.nextInt(4) > 0) {
                writeSum(text, ring, 1 + random.nextInt(random.nextInt(4) == 0 ? 9 : 5));
            } else {
                writeExpression(text, ring, k, random.nextInt(4) == 0 ? -3 : 0);
            }
            text.append(';');
        }
        spoil(text);
        text.setLength(Math.min(text.length(), random.nextInt(6) == 0 ? 540 : 500));
        return text.toString();
    }

    private PlainRing field() {
        int p = MODULI[random.nextInt(random.nextInt(3) == 0 ? MODULI.length : 8)];
        int m = 31 - Integer.numberOfLeadingZeros(p);
        return new PlainRing(m, p, random.nextInt(m), random.nextInt(3) == 0 ? 0 : random.nextInt(1 << m));
    }

    private String blank() {
        return random.nextInt(8) == 0 ? " " : random.nextInt(30) == 0 ? "\n" : "";
    }

    private void writeSum(StringBuilder text, PlainRing ring, int length) {
        for (int j = length - 1; j >= 0; j--) {
            text.append(random.nextInt(ring.size)).append(j > 1 ? "*x^" + j : j == 1 ? "*x" : "").append(j > 0 ? "+" : "");
        }
    }

    private void writeExpression(StringBuilder text, PlainRing ring, int names, int depth) {
        for (int terms = random.nextInt(5) / 2; terms >= 0; terms--) {
            for (int powers = random.nextInt(5) / 3; powers >= 0; powers--) {
                writeAtom(text, ring, names, depth);
                if (random.nextInt(4) == 0) {
                    text.append('^').append(random.nextInt(random.nextInt(9) == 0 ? 18 : 4));
                }
                text.append(powers > 0 ? "*" : "").append(blank());
            }
            text.append(terms > 0 ? "+" : "").append(blank());
        }
    }

    private void writeAtom(StringBuilder text, PlainRing ring, int names, int depth) {
        int kind = random.nextInt(depth < 3 ? 9 : 3);
        if (kind < 1 || kind < 3 && names == 0) {
            text.append(random.nextInt(3) > 0 ? "x" : "" + random.nextInt(ring.size + (random.nextInt(40) == 0 ? 1 : 0)));
        } else if (kind < 3) {
            text.append(NAMES[random.nextInt(Math.min(names, NAMES.length))]);
        } else if (kind < 6) {
            text.append('(');
            writeExpression(text, ring, names, depth + 1);
            text.append(')');
        } else {
            text.append(WHATS[random.nextInt(WHATS.length)]).append(blank()).append('(');
            writeExpression(text, ring, names, depth + 1);
            text.append(',').append(blank());
            writeExpression(text, ring, names, depth + 1);
            text.append(')');
        }
    }

    private void spoil(StringBuilder text) {
        if (random.nextInt(3) > 0) {
            return;
        }
        String signs = " \nx;=+*^(),01289abf?\t\u00e9\u00ff-";
        for (int k = random.nextInt(3); k >= 0; k--) {
            int at = random.nextInt(text.length());
            char sign = signs.charAt(random.nextInt(signs.length()));
            switch (random.nextInt(5)) {
                case 0: text.setCharAt(at, sign); break;
                case 1: text.insert(at, sign); break;
                case 2: text.deleteCharAt(at); break;
                case 3: text.insert(at, " ".repeat(random.nextInt(300))); break;
                default: text.insert(at, text.substring(Math.max(0, at - random.nextInt(12)), at)); break;
            }
        }
    }

    private void script() {
        PlainScript read = new PlainScript(textOfTape());
        tape = new int[0];
        fault = read.fault;
        if (fault == 0) {
            now = new Held();
            now.ring = read.ring;
            now.names.addAll(read.told);
        }
        due("script", asked.script(), fault == 0 ? read.lines : -1 - read.place);
        due("fault", asked.fault(), fault);
    }

    private String textOfTape() {
        StringBuilder text = new StringBuilder();
        for (int sign : tape) {
            text.append((char) sign);
        }
        return text.toString();
    }

    // All calls

    private void call(int which) {
        if (which < 13) {
            callOfNumbers(which);
        } else if (which < 26) {
            callOfPolynomials(which);
        } else {
            callOfWords(which);
        }
    }

    private void callOfNumbers(int which) {
        PlainRing ring = now.ring;
        int a = number();
        int b = number();
        boolean both = ring.has(a) && ring.has(b);
        switch (which) {
            case 0: due("times " + a + " " + b, asked.times(a, b), both ? ring.mul(a, b) : -1); break;
            case 1: turned(a, few(102)); break;
            case 2: due("slope " + a, asked.slope(a), ring.has(a) ? ring.d(a) : -1); break;
            case 3: due("kin " + a + " " + b, asked.kin(a, b), both ? ring.kin(a, b) : -1); break;
            case 4: due("classes", asked.classes(), ring.classes()); break;
            case 5: least(); break;
            case 6: end(few(tape.length + 2)); break;
            case 7: feedWords(random.ints(5).toArray()); break;
            case 8: keep(name(), few(4)); break;
            case 9: keep(name(), few(4)); break;
            case 10: undo(); break;
            case 11: image(few(2)); break;
            default: restore(few(2)); break;
        }
    }

    private void callOfPolynomials(int which) {
        int i = name();
        int j = name();
        switch (which) {
            case 13: at(i, few(18)); break;
            case 14: makes(i, j, few(2)); break;
            case 15: divides(i, j, few(2)); break;
            case 16: common(i, j, few(2)); break;
            case 17: multiple(i, j, few(2)); break;
            case 18: value(i, number()); break;
            case 19: applied(i, number(), number()); break;
            case 20: roots(i, few(4) - 1); break;
            case 21: divisors(i, few(5), few(4) - 1); break;
            case 22: factorings(i); break;
            case 23: factor(i, few(5), few(4)); break;
            case 24: like(i, j); break;
            default: norm(i); break;
        }
    }

    private void callOfWords(int which) {
        switch (which) {
            case 26: rank(); break;
            case 27: sumRank(); break;
            case 28: weight(name(), few(10)); break;
            case 29: points(); break;
            case 30: pointsOfRow(); break;
            case 31: word(name(), few(9)); break;
            case 32: distance(few(now.points.length + 2)); break;
            case 33: mend(few(now.points.length + 2)); break;
            case 34: mend(1); break;
            case 35: register(); break;
            case 36: tap(few(9)); break;
            case 37: result(few(5), few(18)); break;
            case 38: count(few(10)); break;
            case 39: sumRankOfBlocks(); break;
            case 40: keep(name(), few(4)); break;
            case 41: points(); break;
            default: script(); break;
        }
    }

    /** What no call may change but those that tell so. */
    private void compareSome() {
        int[] wanted = {now.ring.m, now.ring.p, now.ring.s, now.ring.c, now.ring.round, now.names.size(),
            now.points.length, now.undoTold.size(), tape.length};
        int what = random.nextInt(wanted.length);
        due("count " + what, asked.count(what), wanted[what]);
        int k = random.nextInt(4);
        due("degree of RESULT " + k, asked.resultDegree(k), PlainRing.degree(results[k]));
        int j = random.nextInt(results[k].length + 1);
        due("x^" + j, asked.result(k, j), j < results[k].length ? results[k][j] : 0);
        if (!now.names.isEmpty()) {
            int i = random.nextInt(now.names.size());
            due("degree of " + i, asked.degree(i), PlainRing.degree(named(i)));
            int n = random.nextInt(named(i).length + 1);
            due("x^" + n, asked.at(i, n), n < named(i).length ? named(i)[n] : 0);
        }
    }

    private void count(int what) {
        if (what < 0 || what > 8) {
            due("count " + what, asked.count(what), -1);
        }
    }

    private void result(int k, int j) {
        if (k < 0 || k > 3 || j < 0) {
            Due.throwsNoSuch(calls + "result " + k + " " + j, () -> asked.result(k, j));
        } else {
            due("result " + k + " " + j, asked.result(k, j), j < results[k].length ? results[k][j] : 0);
        }
        due("resultDegree " + k, asked.resultDegree(k), k < 0 || k > 3 ? -2 : PlainRing.degree(results[k]));
    }

    private void at(int i, int j) {
        int[] f = named(i);
        if (f == null || j < 0) {
            Due.throwsNoSuch(calls + "at " + i + " " + j, () -> asked.at(i, j));
        } else {
            due("at " + i + " " + j, asked.at(i, j), j < f.length ? f[j] : 0);
        }
        if (f == null) {
            Due.throwsNoSuch(calls + "degree " + i, () -> asked.degree(i));
        }
    }

    private void turned(int a, int k) {
        due("turned " + a + " " + k, asked.turned(a, k), now.ring.has(a) && k >= 0 && k <= 99 ? now.ring.t(a, k) : -1);
    }

    // RESULTS

    private int put(int k, int[] f) {
        results[k] = f;
        return PlainRing.degree(f);
    }

    private void makes(int i, int j, int what) {
        int[] f = named(i);
        int[] g = named(j);
        int want = -2;
        if (f != null && g != null && (what == 0 || what == 1)) {
            int[] made = what == 0 ? PlainRing.sum(f, g) : now.ring.product(f, g);
            want = made.length > 17 ? -2 : put(0, made);
        }
        due("makes " + i + " " + j + " " + what, asked.makes(i, j, what), want);
    }

    private void divides(int i, int j, int side) {
        int[] f = named(i);
        int[] g = named(j);
        int want = -2;
        if (f != null && g != null && (side == 0 || side == 1) && g.length > 0) {
            int[][] by = now.ring.divided(side == 1, f, g);
            put(0, by[0]);
            want = put(1, by[1]);
        }
        due("divides " + i + " " + j + " " + side, asked.divides(i, j, side), want);
    }

    private void common(int i, int j, int side) {
        int[] f = named(i);
        int[] g = named(j);
        int want = -2;
        if (f != null && g != null && (side == 0 || side == 1)) {
            int[][] told = now.ring.common(side == 1, f, g);
            want = put(0, told[0]);
            if (side == 0) {
                put(2, told[1]);
                put(3, told[2]);
            }
        }
        due("common " + i + " " + j + " " + side, asked.common(i, j, side), want);
    }

    private void multiple(int i, int j, int side) {
        int[] f = named(i);
        int[] g = named(j);
        int want = -2;
        if (f != null && g != null && (side == 0 || side == 1)) {
            int[] made = now.ring.multiple(side == 1, f, g);
            want = made.length > 17 ? -2 : put(0, made);
        }
        due("multiple " + i + " " + j + " " + side, asked.multiple(i, j, side), want);
    }

    private void least() {
        boolean told = tape.length <= 16 && areNumbers(0, tape.length);
        int want = told ? put(0, now.ring.least(tape)) : -2;
        tape = new int[0];
        due("least", asked.least(), want);
    }

    private boolean areNumbers(int from, int to) {
        for (int k = from; k < to; k++) {
            if (!now.ring.has(tape[k])) {
                return false;
            }
        }
        return true;
    }

    // Acts undone, images

    private void keep(int i, int k) {
        boolean told = named(i) != null && k >= 0 && k < 4;
        for (int j = 0; told && j < results[k].length; j++) {
            told = now.ring.has(results[k][j]);
            if (!told) {
                break;
            }
        }
        if (told) {
            now.undoTold.add(now.names.get(i));
            now.undoNames.add(i);
            if (now.undoTold.size() > 16) {
                now.undoTold.remove(0);
                now.undoNames.remove(0);
            }
            now.names.set(i, results[k]);
        }
        due("keep " + i + " " + k, asked.keep(i, k), told);
    }

    private void undo() {
        int latest = now.undoTold.size() - 1;
        if (latest >= 0) {
            now.names.set(now.undoNames.remove(latest), now.undoTold.remove(latest));
        }
        due("undo", asked.undo(), latest);
    }

    private void image(int k) {
        boolean told = k == 0 || k == 1;
        if (told) {
            images[k] = now.copy();
        }
        due("image " + k, asked.image(k), told);
    }

    private void restore(int k) {
        boolean told = (k == 0 || k == 1) && images[k] != null;
        if (told) {
            now = images[k].copy();
        }
        due("restore " + k, asked.restore(k), told);
        due("fault", asked.fault(), fault);
    }

    // Values, divisors, factorings, likeness, norms

    private void value(int i, int a) {
        due("value " + i + " " + a, asked.value(i, a), named(i) != null && now.ring.has(a) ? now.ring.value(named(i), a) : -1);
    }

    private void applied(int i, int a, int b) {
        boolean told = named(i) != null && now.ring.has(a) && now.ring.has(b);
        due("applied " + i + " " + a + " " + b, asked.applied(i, a, b), told ? now.ring.applied(named(i), a, b) : -1);
    }

    private void roots(int i, int k) {
        List<Integer> all = new ArrayList<>();
        for (int a = 0; named(i) != null && a < now.ring.size; a++) {
            if (now.ring.value(named(i), a) == 0) {
                all.add(a);
            }
        }
        due("roots " + i + " " + k, asked.roots(i, k), named(i) == null ? -1 : countOrOne(all, k));
    }

    private static int countOrOne(List<Integer> all, int k) {
        return k == -1 ? all.size() : k >= 0 && k < all.size() ? all.get(k) : -1;
    }

    private void divisors(int i, int n, int k) {
        int[] f = named(i);
        boolean told = f != null && f.length > 0 && n >= 0 && now.ring.isFew(n);
        if (told && n < f.length && isDear(n)) {
            return;
        }
        due("divisors " + i + " " + n + " " + k, asked.divisors(i, n, k),
            told ? countOrOne(now.ring.divisors(f, n), k) : -2);
    }

    private boolean isFactored(int[] f) {
        return f != null && f.length > 0 && f.length <= 7 && now.ring.isFew(f.length - 2);
    }

    private void factorings(int i) {
        int[] f = named(i);
        if (!isFactored(f)) {
            due("factorings " + i, asked.factorings(i), -2);
        } else if (!isDear(f.length - 2)) {
            due("factorings " + i, asked.factorings(i), now.ring.factorings(f).size());
        }
    }

    private void factor(int i, int k, int p) {
        int[] f = named(i);
        if (!isFactored(f)) {
            due("factor " + i + " " + k + " " + p, asked.factor(i, k, p), -2);
        } else if (!isDear(f.length - 2)) {
            List<int[]> all = now.ring.factorings(f);
            int[] one = k >= 0 && k < all.size() ? all.get(k) : new int[0];
            due("factor " + i + " " + k + " " + p, asked.factor(i, k, p), p >= 0 && p < one.length ? one[p] : -1);
        }
    }

    private void like(int i, int j) {
        int[] f = named(i);
        int[] g = named(j);
        boolean told = f != null && g != null && f.length > 0 && g.length > 0;
        told = told && now.ring.isFew(f.length - 1) && now.ring.isFew(g.length - 1);
        if (told && f.length == g.length && isDear(f.length - 1)) {
            return;
        }
        due("like " + i + " " + j, asked.like(i, j), told ? (now.ring.like(f, g) ? 1 : 0) : -2);
    }

    private void norm(int i) {
        int[] f = named(i);
        boolean told = f != null && now.ring.round <= 4 && f.length <= 7;
        due("norm " + i, asked.norm(i), told ? put(0, now.ring.norm(f)) : -2);
    }

    // Words, codes, registers

    private boolean isWord() {
        return tape.length >= 1 && tape.length <= 16 && areNumbers(0, tape.length);
    }

    private void rank() {
        int want = isWord() ? PlainRing.rank(tape, 0, tape.length) : -1;
        tape = new int[0];
        due("rank", asked.rank(), want);
    }

    private void sumRankOfBlocks() {
        int blocks = 1 + random.nextInt(9);
        int length = 0;
        int[] row = new int[1 + blocks];
        row[0] = odd(blocks);
        for (int b = 1; b <= blocks; b++) {
            row[b] = odd(1 + random.nextInt(3)) & 255;
            length += Math.min(row[b], 40);
        }
        row = Arrays.copyOf(row, 1 + blocks + length);
        for (int k = 1 + blocks; k < row.length; k++) {
            row[k] = random.nextInt(now.ring.size);
        }
        feed(row);
        sumRank();
    }

    private void sumRank() {
        int want = sumRankOfTape();
        tape = new int[0];
        due("sumRank", asked.sumRank(), want);
    }

    private int sumRankOfTape() {
        int blocks = tape.length > 0 ? tape[0] : 0;
        if (blocks < 1 || blocks > 8 || tape.length <= blocks) {
            return -1;
        }
        int sum = 0;
        int from = 1 + blocks;
        for (int b = 1; b <= blocks; b++) {
            int to = from + tape[b];
            if (to == from || to > tape.length || !areNumbers(from, to)) {
                return -1;
            }
            sum += PlainRing.rank(tape, from, to);
            from = to;
        }
        return from == tape.length && from - 1 - blocks <= 16 ? sum : -1;
    }

    private void weight(int i, int n) {
        int[] g = named(i);
        boolean told = g != null && g.length > 0 && n >= 2 && n <= 8 && g.length - 1 < n && now.ring.isFew(n - g.length + 1);
        if (!told || !isDear(n - g.length + 1)) {
            due("weight " + i + " " + n, asked.weight(i, n), told ? now.ring.weight(g, n) : -2);
        }
    }

    private void pointsOfRow() {
        feed(random.ints(1 + random.nextInt(9), 0, now.ring.size).toArray());
        points();
    }

    private void points() {
        int want = -1;
        if (tape.length >= 1 && tape.length <= 8 && areNumbers(0, tape.length)) {
            now.points = tape;
            want = PlainRing.rank(tape, 0, tape.length);
        }
        tape = new int[0];
        due("points", asked.points(), want);
    }

    private void word(int i, int p) {
        boolean told = named(i) != null && p >= 0 && p < now.points.length;
        due("word " + i + " " + p, asked.word(i, p), told ? now.ring.applied(named(i), 1, now.points[p]) : -1);
    }

    private boolean isDimension(int k) {
        return k >= 1 && k <= now.points.length && now.ring.isFew(k);
    }

    private void distance(int k) {
        if (!isDimension(k) || !isDear(k)) {
            due("distance " + k, asked.distance(k), isDimension(k) ? now.ring.distance(now.points, k) : -2);
        }
    }

    /** Now and then a word of a polynomial with an error in it, so that it can be MENDED. */
    private void mend(int k) {
        if (isDimension(k) && isDear(k)) {
            return;
        }
        if (isDimension(k) && random.nextInt(4) > 0) {
            int[] word = now.ring.word(now.ring.numbered(random.nextInt(now.ring.count(k))), now.points);
            word[random.nextInt(word.length)] ^= random.nextInt(now.ring.size);
            feed(word);
        }
        int want = -3;
        if (isDimension(k) && tape.length == now.points.length && areNumbers(0, tape.length)) {
            int[] only = now.ring.mended(now.points, tape, k);
            want = only == null ? -2 : put(0, only);
        }
        tape = new int[0];
        due("mend " + k, asked.mend(k), want);
    }

    private void register() {
        int want = -1;
        if (isWord()) {
            taps = now.ring.register(tape);
            want = taps.length;
        }
        tape = new int[0];
        due("register", asked.register(), want);
        for (int i = 0; i < taps.length + 2; i++) {
            tap(i);
        }
    }

    private void tap(int i) {
        due("tap " + i, asked.tap(i), i >= 1 && i <= taps.length ? taps[i - 1] : -1);
    }
}
