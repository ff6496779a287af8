import java.util.NoSuchElementException;

/**
 * Polynomials over a small field whose letter turns each number that it passes and leaves a slope
 * behind. README.md says how to use it; the names in the comments are those of the document.
 */
public final class TurnedRing {
    public static final int NONE = -1;

    private static final int NOT_TOLD = -2;
    private static final int RIGHT = 0;
    private static final int LEFT = 1;
    private static final int MOST_BITS = 8;
    private static final int MOST_NUMBERS = 256;
    private static final int MOST_TURNS = 99;
    private static final int MOST_DEGREE = 16;
    private static final int SIZE = MOST_DEGREE + 1;
    private static final int MOST_BYTES = 540;
    private static final int FED_BYTES = 20;
    private static final int MOST_NAMES = 12;
    private static final int MOST_UNDONE = 16;
    private static final int MOST_POINTS = 8;
    private static final int MOST_BLOCKS = 8;
    private static final int MOST_WORD = 16;
    private static final int LEAST_CYCLE = 2;
    private static final int MOST_CYCLE = 8;
    private static final int MOST_FACTORED = 6;
    private static final int MOST_ROUND = 4;
    private static final int RESULTS = 4;
    private static final int PLACES = 2;
    /** 4096 is 2 to this: so many polynomials are gone through at most. */
    private static final int FEW_BITS = 12;

    private final Tape tape = new Tape();
    private final State now = new State();
    private final State[] images = new State[PLACES];
    private final boolean[] imaged = new boolean[PLACES];
    private final Polynomial[] results = polynomials(RESULTS);
    private final Ring ring = new Ring();
    private final Reader reader = new Reader();
    private final Splitter splitter = new Splitter();
    private final Span span = new Span();
    private final Norm normer = new Norm();
    private final Register latest = new Register();
    private final Polynomial scratch = new Polynomial();
    private final boolean[] seen = new boolean[MOST_NUMBERS];
    private int faultKind = 0;

    public TurnedRing() {
        for (int k = 0; k < PLACES; k++) {
            images[k] = new State();
        }
        now.tellTo(ring.field);
    }

    // The tape and the SCRIPT

    public int feed(int a, int b, int c, int d, int e) {
        if (tape.length + FED_BYTES > MOST_BYTES) {
            return NONE;
        }
        tape.putNumber(a);
        tape.putNumber(b);
        tape.putNumber(c);
        tape.putNumber(d);
        tape.putNumber(e);
        return tape.length;
    }

    public boolean end(int n) {
        if (n < 0 || n > tape.length) {
            return false;
        }
        tape.length = n;
        return true;
    }

    public int script() {
        reader.begin(tape);
        tape.length = 0;
        for (int k = 0; k < MOST_BYTES && reader.isAtHead(); k++) {
            reader.headLine();
        }
        for (int k = 0; k < MOST_BYTES && reader.goesOn(); k++) {
            reader.nameLine();
        }
        faultKind = reader.faultKind;
        if (faultKind != 0) {
            return -1 - reader.faultPlace;
        }
        now.copy(reader.told);
        now.tellTo(ring.field);
        return reader.lines;
    }

    public int fault() {
        return faultKind;
    }

    // Numbers

    public int times(int a, int b) {
        return ring.field.has(a) && ring.field.has(b) ? ring.field.product(a, b) : NONE;
    }

    public int turned(int a, int k) {
        return ring.field.has(a) && k >= 0 && k <= MOST_TURNS ? ring.field.turn(a, k) : NONE;
    }

    public int slope(int a) {
        return ring.field.has(a) ? ring.field.slopeOf(a) : NONE;
    }

    // Polynomials

    public int degree(int i) throws NoSuchElementException {
        Polynomial f = now.named(i);
        if (f == null) {
            throw new NoSuchElementException();
        }
        return f.top();
    }

    public int at(int i, int j) throws NoSuchElementException {
        Polynomial f = now.named(i);
        if (f == null || j < 0) {
            throw new NoSuchElementException();
        }
        return f.get(j);
    }

    public int makes(int i, int j, int what) {
        Polynomial f = now.named(i);
        Polynomial g = now.named(j);
        if (f == null || g == null || what < 0 || what > 1) {
            return NOT_TOLD;
        }
        if (what == 0) {
            scratch.copy(f);
            scratch.add(g);
        } else if (!ring.multiply(f, g, scratch)) {
            return NOT_TOLD;
        }
        results[0].copy(scratch);
        return results[0].top();
    }

    public int divides(int i, int j, int side) {
        Polynomial f = now.named(i);
        Polynomial g = now.named(j);
        if (f == null || g == null || !isSide(side)) {
            return NOT_TOLD;
        }
        return ring.divide(side, f, g, results[0], results[1]) ? results[1].top() : NOT_TOLD;
    }

    public int common(int i, int j, int side) {
        Polynomial f = now.named(i);
        Polynomial g = now.named(j);
        if (f == null || g == null || !isSide(side)) {
            return NOT_TOLD;
        }
        ring.compare(side, f, g);
        results[0].copy(ring.part);
        if (side == RIGHT) {
            results[2].copy(ring.ofFirst);
            results[3].copy(ring.ofSecond);
        }
        return results[0].top();
    }

    public int multiple(int i, int j, int side) {
        Polynomial f = now.named(i);
        Polynomial g = now.named(j);
        if (f == null || g == null || !isSide(side)) {
            return NOT_TOLD;
        }
        ring.compare(side, f, g);
        if (!ring.multipleFits) {
            return NOT_TOLD;
        }
        results[0].copy(ring.multiple);
        return results[0].top();
    }

    private static boolean isSide(int side) {
        return side == RIGHT || side == LEFT;
    }

    // RESULTS and acts undone

    public int result(int k, int j) throws NoSuchElementException {
        if (k < 0 || k >= RESULTS || j < 0) {
            throw new NoSuchElementException();
        }
        return results[k].get(j);
    }

    public int resultDegree(int k) {
        return k < 0 || k >= RESULTS ? NOT_TOLD : results[k].top();
    }

    public boolean keep(int i, int k) {
        Polynomial f = now.named(i);
        if (f == null || k < 0 || k >= RESULTS) {
            return false;
        }
        if (!ring.field.hasAll(results[k].numbers, 0, SIZE)) {
            return false;
        }
        now.remember(i);
        f.copy(results[k]);
        return true;
    }

    public int undo() {
        return now.undoLatest();
    }

    // Values and places

    public int value(int i, int a) {
        Polynomial f = now.named(i);
        return f != null && ring.field.has(a) ? ring.appliedTo(f, a, 1) : NONE;
    }

    public int applied(int i, int a, int b) {
        Polynomial f = now.named(i);
        boolean told = f != null && ring.field.has(a) && ring.field.has(b);
        return told ? ring.appliedTo(f, a, b) : NONE;
    }

    public int roots(int i, int k) {
        Polynomial f = now.named(i);
        if (f == null || k < NONE) {
            return NONE;
        }
        int found = 0;
        for (int a = 0; a < ring.field.size; a++) {
            if (ring.appliedTo(f, a, 1) == 0) {
                if (found == k) {
                    return a;
                }
                found++;
            }
        }
        return k == NONE ? found : NONE;
    }

    public int kin(int a, int b) {
        if (!ring.field.has(a) || !ring.field.has(b)) {
            return NONE;
        }
        for (int c = 1; c < ring.field.size; c++) {
            if (ring.field.kinOf(a, c) == b) {
                return c;
            }
        }
        return NONE;
    }

    public int classes() {
        for (int a = 0; a < MOST_NUMBERS; a++) {
            seen[a] = false;
        }
        int count = 0;
        for (int a = 0; a < ring.field.size && a < MOST_NUMBERS; a++) {
            if (!seen[a]) {
                count++;
                seeKin(a);
            }
        }
        return count;
    }

    private void seeKin(int a) {
        for (int c = 1; c < ring.field.size; c++) {
            seen[ring.field.kinOf(a, c) & 255] = true;
        }
    }

    public int least() {
        boolean told = tape.length <= MOST_WORD && ring.field.hasAll(tape.bytes, 0, tape.length);
        if (told) {
            results[0].constant(1);
            for (int p = 0; p < tape.length; p++) {
                ring.takeIn(results[0], tape.bytes[p]);
            }
        }
        tape.length = 0;
        return told ? results[0].top() : NOT_TOLD;
    }

    // Divisors, factorings, likeness, norms

    public int divisors(int i, int n, int k) {
        Polynomial f = now.named(i);
        if (f == null || f.isZero() || n < 0 || !ring.field.isFew(n)) {
            return NOT_TOLD;
        }
        return splitter.divisor(ring, f, n, k);
    }

    public int factorings(int i) {
        Polynomial f = now.named(i);
        return isFactored(f) ? splitter.countFactorings(ring, f) : NOT_TOLD;
    }

    public int factor(int i, int k, int p) {
        Polynomial f = now.named(i);
        return isFactored(f) ? splitter.factorOf(ring, f, k, p) : NOT_TOLD;
    }

    private boolean isFactored(Polynomial f) {
        if (f == null || f.isZero()) {
            return false;
        }
        return f.top() <= MOST_FACTORED && ring.field.isFew(f.top() - 1);
    }

    public int like(int i, int j) {
        Polynomial f = now.named(i);
        Polynomial g = now.named(j);
        if (f == null || g == null || f.isZero() || g.isZero()) {
            return NOT_TOLD;
        }
        int n = f.top();
        if (!ring.field.isFew(n) || !ring.field.isFew(g.top())) {
            return NOT_TOLD;
        }
        return g.top() == n && (n == 0 || areLike(f, g, n)) ? 1 : 0;
    }

    /** f h is a MULTIPLE of h by itself, so of g too where it leaves no rest by g: these h are all sums of a few. */
    private boolean areLike(Polynomial f, Polynomial g, int n) {
        span.begin(ring.field);
        for (int j = 0; j < n; j++) {
            for (int e = 0; e < ring.field.bits; e++) {
                scratch.clear();
                scratch.put(j, 1 << e);
                ring.leave(f, scratch, g);
                span.addRow(ring.rest.numbers, n);
            }
        }
        long rest = 0;
        for (int k = 1; k < span.sums(); k++) {
            rest ^= span.step(k);
            if (rest == 0) {
                span.putPolynomial(span.code(k), scratch);
                ring.compare(RIGHT, scratch, g);
                if (ring.part.top() == 0) {
                    return true;
                }
            }
        }
        return false;
    }

    public int norm(int i) {
        Polynomial f = now.named(i);
        if (f == null || ring.field.round > MOST_ROUND || f.top() > MOST_FACTORED) {
            return NOT_TOLD;
        }
        normer.take(ring.field, f, results[0]);
        return results[0].top();
    }

    // Words

    public int rank() {
        int count = tape.length;
        boolean told = isWord(count) && ring.field.hasAll(tape.bytes, 0, count);
        tape.length = 0;
        return told ? span.rankOf(tape.bytes, 0, count) : NONE;
    }

    public int sumRank() {
        int count = tape.length;
        int blocks = tape.byteAt(0);
        tape.length = 0;
        if (count < 1 || blocks < 1 || blocks > MOST_BLOCKS || count < 1 + blocks) {
            return NONE;
        }
        int whole = 0;
        for (int b = 1; b <= blocks; b++) {
            if (tape.byteAt(b) < 1) {
                return NONE;
            }
            whole += tape.byteAt(b);
        }
        if (!isWord(whole) || count != 1 + blocks + whole) {
            return NONE;
        }
        return ring.field.hasAll(tape.bytes, 1 + blocks, count) ? rankOfBlocks(blocks) : NONE;
    }

    private int rankOfBlocks(int blocks) {
        int sum = 0;
        int from = 1 + blocks;
        for (int b = 1; b <= blocks; b++) {
            int to = from + tape.byteAt(b);
            sum += span.rankOf(tape.bytes, from, to);
            from = to;
        }
        return sum;
    }

    private static boolean isWord(int count) {
        return count >= 1 && count <= MOST_WORD;
    }

    public int weight(int i, int n) {
        Polynomial g = now.named(i);
        if (g == null || g.isZero() || n < LEAST_CYCLE || n > MOST_CYCLE) {
            return NOT_TOLD;
        }
        int dimension = n - g.top();
        if (dimension < 1 || !ring.field.isFew(dimension)) {
            return NOT_TOLD;
        }
        span.begin(ring.field);
        scratch.copy(g);
        for (int j = 0; j < dimension; j++) {
            span.addTimes(ring.field, scratch.numbers, n);
            ring.field.passLetter(scratch.numbers, scratch.top());
        }
        return span.leastWeight(n);
    }

    // Codes of points

    public int points() {
        int count = tape.length;
        boolean told = count >= 1 && count <= MOST_POINTS && ring.field.hasAll(tape.bytes, 0, count);
        tape.length = 0;
        if (!told) {
            return NONE;
        }
        now.putPoints(tape.bytes, count);
        return span.rankOf(tape.bytes, 0, count);
    }

    public int word(int i, int p) {
        Polynomial f = now.named(i);
        if (f == null || p < 0 || p >= now.pointCount) {
            return NONE;
        }
        return ring.appliedTo(f, 1, now.point(p));
    }

    public int distance(int k) {
        if (!isDimension(k)) {
            return NOT_TOLD;
        }
        spanPoints(k);
        return span.leastRank(now.pointCount);
    }

    public int mend(int k) {
        int count = tape.length;
        tape.length = 0;
        boolean told = isDimension(k) && count == now.pointCount;
        if (!told || !ring.field.hasAll(tape.bytes, 0, count)) {
            return NONE - 2;
        }
        spanPoints(k);
        int radius = (count - k) / 2;
        int code = span.onlyNear(span.packed(tape.bytes, count), count, radius);
        if (code == NONE) {
            return NONE - 1;
        }
        span.putPolynomial(code, results[0]);
        return results[0].top();
    }

    private boolean isDimension(int k) {
        return k >= 1 && k <= now.pointCount && ring.field.isFew(k);
    }

    /** The words of all polynomials of degree below k: sums of those of 2^e x^j. */
    private void spanPoints(int k) {
        span.begin(ring.field);
        scratch.clear();
        for (int p = 0; p < now.pointCount; p++) {
            scratch.put(p, now.point(p));
        }
        for (int j = 0; j < k; j++) {
            span.addTimes(ring.field, scratch.numbers, now.pointCount);
            for (int p = 0; p < now.pointCount; p++) {
                scratch.put(p, ring.field.step(1, scratch.get(p)));
            }
        }
    }

    // Registers

    public int register() {
        int count = tape.length;
        boolean told = isWord(count) && ring.field.hasAll(tape.bytes, 0, count);
        tape.length = 0;
        return told ? latest.find(ring.field, tape.bytes, count) : NONE;
    }

    public int tap(int i) {
        return latest.tapAt(i);
    }

    // Images and counts

    public boolean image(int k) {
        if (k < 0 || k >= PLACES) {
            return false;
        }
        images[k].copy(now);
        imaged[k] = true;
        return true;
    }

    public boolean restore(int k) {
        if (k < 0 || k >= PLACES || !imaged[k]) {
            return false;
        }
        now.copy(images[k]);
        now.tellTo(ring.field);
        return true;
    }

    public int count(int what) {
        switch (what) {
            case 0: return ring.field.bits;
            case 1: return ring.field.modulus;
            case 2: return ring.field.power;
            case 3: return ring.field.slant;
            case 4: return ring.field.round;
            case 5: return now.nameCount;
            case 6: return now.pointCount;
            case 7: return now.undoCount;
            case 8: return tape.length;
            default: return NONE;
        }
    }

    private static Polynomial[] polynomials(int count) {
        Polynomial[] made = new Polynomial[Math.max(count, 0)];
        for (int k = 0; k < made.length; k++) {
            made[k] = new Polynomial();
        }
        return made;
    }

    private static final class Tape {
        final int[] bytes = new int[MOST_BYTES];
        int length = 0;

        void putNumber(int number) {
            for (int shift = 24; shift >= 0; shift -= 8) {
                if (length >= 0 && length < MOST_BYTES) {
                    bytes[length] = (number >>> shift) & 255;
                    length++;
                }
            }
        }

        int byteAt(int place) {
            return place >= 0 && place < MOST_BYTES ? bytes[place] : 0;
        }
    }

    /** The numbers of the field, by tables: a masked number is always a place in them. */
    private static final class Field {
        int bits = 1;
        int modulus = 3;
        int power = 0;
        int slant = 0;
        int size = 2;
        int round = 1;
        /** Twice the powers of one number, so that a sum of two logs is a place. */
        final int[] powers = new int[2 * MOST_NUMBERS];
        final int[] logs = new int[MOST_NUMBERS];
        final int[] turns = new int[MOST_NUMBERS];
        final int[] slopes = new int[MOST_NUMBERS];

        void tell(int newBits, int newModulus, int newPower, int newSlant) {
            if (newBits < 1 || newBits > MOST_BITS) {
                return;
            }
            bits = newBits;
            modulus = newModulus;
            power = newPower;
            slant = newSlant;
            size = 1 << bits;
            round = leastRound();
            boolean filled = false;
            for (int a = 1; a < size && !filled; a++) {
                filled = fillPowers(a);
            }
            for (int a = 0; a < size; a++) {
                int turned = a;
                for (int k = 0; k < power; k++) {
                    turned = product(turned, turned);
                }
                turns[a & 255] = turned;
                slopes[a & 255] = product(slant, turned ^ a);
            }
        }

        private int leastRound() {
            for (int r = 1; r < bits; r++) {
                if (bits > 0 && r * power % bits == 0) {
                    return r;
                }
            }
            return bits;
        }

        /** False, if the powers of this number are not all numbers but 0. */
        private boolean fillPowers(int base) {
            int reached = 1;
            for (int k = 0; k < size - 1; k++) {
                if (k > 0 && reached == 1) {
                    return false;
                }
                powers[k & 511] = reached;
                powers[(k + size - 1) & 511] = reached;
                logs[reached & 255] = k;
                reached = longProduct(reached, base);
            }
            return true;
        }

        private int longProduct(int a, int b) {
            int sum = 0;
            int shifted = a;
            for (int k = 0; k < bits; k++) {
                if ((b >>> k & 1) == 1) {
                    sum ^= shifted;
                }
                shifted <<= 1;
                if ((shifted >>> bits & 1) == 1) {
                    shifted ^= modulus;
                }
            }
            return sum;
        }

        boolean has(int a) {
            return a >= 0 && a < size;
        }

        boolean hasAll(int[] row, int from, int to) {
            if (from < 0 || to > row.length) {
                return false;
            }
            for (int k = from; k < to; k++) {
                if (!has(row[k])) {
                    return false;
                }
            }
            return true;
        }

        /** No more than 4096 rows of so many numbers. */
        boolean isFew(int count) {
            return count <= FEW_BITS && count * bits <= FEW_BITS;
        }

        int product(int a, int b) {
            if (a == 0 || b == 0) {
                return 0;
            }
            return powers[(logs[a & 255] + logs[b & 255]) & 511];
        }

        int inverse(int a) {
            return a == 0 ? 0 : powers[(size - 1 - logs[a & 255]) & 511];
        }

        int turn(int a, int count) {
            int turned = a;
            for (int k = round > 0 ? count % round : 0; k > 0; k--) {
                turned = turns[turned & 255];
            }
            return turned;
        }

        int turnBack(int a, int count) {
            int turned = a;
            for (int k = round > 0 ? round - count % round : 0; k > 0; k--) {
                turned = turns[turned & 255];
            }
            return turned;
        }

        int slopeOf(int a) {
            return slopes[a & 255];
        }

        /** What x does to b at the place a. */
        int step(int a, int b) {
            return product(turns[b & 255], a) ^ slopes[b & 255];
        }

        int kinOf(int a, int c) {
            return product(step(a, c), inverse(c));
        }

        /** The polynomial of this degree is made x times it. */
        void passLetter(int[] row, int top) {
            if (row.length == 0) {
                return;
            }
            for (int k = top + 1 < row.length ? top + 1 : row.length - 1; k > 0; k--) {
                row[k] = turns[row[k - 1] & 255] ^ slopes[row[k] & 255];
            }
            row[0] = slopes[row[0] & 255];
        }

        /** A number times the first ones of a row is added; in one go with no calls, as most time is spent here. */
        void addTimes(int[] sum, int number, int[] row, int top) {
            if (number == 0) {
                return;
            }
            int log = logs[number & 255];
            for (int k = 0; k <= top && k < sum.length && k < row.length; k++) {
                if (row[k] != 0) {
                    sum[k] ^= powers[(log + logs[row[k] & 255]) & 511];
                }
            }
        }
    }

    private static final class Polynomial {
        final int[] numbers = new int[SIZE];

        int top() {
            for (int j = MOST_DEGREE; j >= 0; j--) {
                if (numbers[j] != 0) {
                    return j;
                }
            }
            return -1;
        }

        boolean isZero() {
            return top() < 0;
        }

        int get(int j) {
            return j >= 0 && j < SIZE ? numbers[j] : 0;
        }

        void put(int j, int number) {
            if (j >= 0 && j < SIZE) {
                numbers[j] = number;
            }
        }

        void clear() {
            for (int j = 0; j < SIZE; j++) {
                numbers[j] = 0;
            }
        }

        void constant(int number) {
            clear();
            numbers[0] = number;
        }

        void letter() {
            clear();
            numbers[1] = 1;
        }

        void copy(Polynomial from) {
            for (int j = 0; j < SIZE; j++) {
                numbers[j] = from.numbers[j];
            }
        }

        void add(Polynomial other) {
            for (int j = 0; j < SIZE; j++) {
                numbers[j] ^= other.numbers[j];
            }
        }

        void swap(Polynomial other) {
            for (int j = 0; j < SIZE; j++) {
                int number = numbers[j];
                numbers[j] = other.numbers[j];
                other.numbers[j] = number;
            }
        }
    }

    /** Products and divisions; what they leave behind stands in rows that are made once. */
    private static final class Ring {
        final Field field = new Field();
        final Polynomial part = new Polynomial();
        final Polynomial ofFirst = new Polynomial();
        final Polynomial ofSecond = new Polynomial();
        final Polynomial multiple = new Polynomial();
        boolean multipleFits = false;
        final Polynomial rest = new Polynomial();
        private final Polynomial passed = new Polynomial();
        private final Polynomial product = new Polynomial();
        private final Polynomial single = new Polynomial();
        private final Polynomial left = new Polynomial();
        private final Polynomial quotient = new Polynomial();
        private final Polynomial next = new Polynomial();
        private final Polynomial nextFirst = new Polynomial();
        private final Polynomial nextSecond = new Polynomial();
        private final Polynomial steps = new Polynomial();
        private final Polynomial joined = new Polynomial();

        /** f g; false, and nothing done, if its degree is above 16. */
        boolean multiply(Polynomial f, Polynomial g, Polynomial out) {
            return join(RIGHT, f, g, out);
        }

        /** What steps from the right multiply on the left, steps from the left multiply on the right. */
        private boolean join(int side, Polynomial outer, Polynomial inner, Polynomial out) {
            Polynomial f = side == LEFT ? inner : outer;
            Polynomial g = side == LEFT ? outer : inner;
            int m = f.top();
            int n = g.top();
            if (m >= 0 && n >= 0 && m + n > MOST_DEGREE) {
                return false;
            }
            passed.copy(g);
            product.clear();
            for (int k = 0; k <= m && n >= 0; k++) {
                field.addTimes(product.numbers, f.get(k), passed.numbers, n + k);
                if (k < m) {
                    field.passLetter(passed.numbers, n + k);
                }
            }
            out.copy(product);
            return true;
        }

        boolean raise(Polynomial f, int n) {
            if (f.top() * n > MOST_DEGREE) {
                return false;
            }
            joined.constant(1);
            for (int k = 0; k < n; k++) {
                multiply(joined, f, joined);
            }
            f.copy(joined);
            return true;
        }

        /** False, and nothing done, if g is 0. */
        boolean divide(int side, Polynomial f, Polynomial g, Polynomial quotientOut, Polynomial restOut) {
            int n = g.top();
            if (n < 0) {
                return false;
            }
            int head = field.inverse(g.get(n));
            left.copy(f);
            quotient.clear();
            for (int k = left.top() - n; k >= 0; k--) {
                int number = quotientNumber(side, head, n, k);
                quotient.put(k, number);
                single.clear();
                single.put(k, number);
                join(side, single, g, single);
                left.add(single);
            }
            quotientOut.copy(quotient);
            restOut.copy(left);
            return true;
        }

        /** The number c for which c x^k g, or g c x^k, takes the highest power away. */
        private int quotientNumber(int side, int head, int n, int k) {
            int highest = left.get(k + n);
            if (side == RIGHT) {
                return field.product(highest, field.turn(head, k));
            }
            return field.turnBack(field.product(highest, head), n);
        }

        /** COMMON PART, what makes it of both, and MULTIPLE. */
        void compare(int side, Polynomial f, Polynomial g) {
            part.copy(f);
            next.copy(g);
            ofFirst.constant(1);
            nextFirst.clear();
            ofSecond.clear();
            nextSecond.constant(1);
            for (int k = 0; k <= SIZE + 1 && !next.isZero(); k++) {
                divide(side, part, next, steps, joined);
                part.copy(next);
                next.copy(joined);
                stepOn(side, ofFirst, nextFirst);
                stepOn(side, ofSecond, nextSecond);
            }
            makeMultiple(side, f, g);
            scale(side, monicNumber(side, multiple), multiple);
            int number = monicNumber(side, part);
            scale(side, number, part);
            scale(side, number, ofFirst);
            scale(side, number, ofSecond);
        }

        private void stepOn(int side, Polynomial before, Polynomial after) {
            join(side, steps, after, joined);
            before.add(joined);
            before.swap(after);
        }

        /** At the end of the steps nextFirst takes f to the MULTIPLE. */
        private void makeMultiple(int side, Polynomial f, Polynomial g) {
            multiple.clear();
            multipleFits = true;
            if (f.isZero() || g.isZero()) {
                return;
            }
            multipleFits = f.top() + g.top() - part.top() <= MOST_DEGREE;
            if (multipleFits) {
                join(side, nextFirst, f, multiple);
            }
        }

        /** 0 for 0. */
        private int monicNumber(int side, Polynomial f) {
            int n = f.top();
            int number = field.inverse(f.get(n));
            return side == RIGHT ? number : field.turnBack(number, Math.max(n, 0));
        }

        private void scale(int side, int number, Polynomial f) {
            single.constant(number);
            join(side, single, f, f);
        }

        void makeMonic(Polynomial f) {
            scale(RIGHT, monicNumber(RIGHT, f), f);
        }

        /** What f h leaves by g from the right, h of a lesser degree than g. */
        void leave(Polynomial f, Polynomial h, Polynomial g) {
            int n = g.top();
            int m = f.top();
            int head = field.inverse(g.get(n));
            rest.clear();
            passed.copy(h);
            for (int k = 0; k <= m && n > 0; k++) {
                field.addTimes(rest.numbers, f.get(k), passed.numbers, n - 1);
                field.passLetter(passed.numbers, n - 1);
                field.addTimes(passed.numbers, field.product(passed.get(n), head), g.numbers, n);
            }
        }

        boolean dividesFromRight(Polynomial g, Polynomial f) {
            single.constant(1);
            leave(f, single, g);
            return rest.isZero();
        }

        int appliedTo(Polynomial f, int a, int b) {
            int sum = 0;
            int reached = b;
            int m = f.top();
            for (int k = 0; k <= m; k++) {
                sum ^= field.product(f.get(k), reached);
                reached = field.step(a, reached);
            }
            return sum;
        }

        /** The LEAST of some places is made that of one more: the factor on its left is 0 at a kin of that one. */
        void takeIn(Polynomial f, int a) {
            int number = appliedTo(f, a, 1);
            if (number != 0) {
                single.letter();
                single.put(0, field.kinOf(a, number));
                multiply(single, f, f);
            }
        }
    }

    /** Field, NAMES, POINTS and what can be undone. */
    private static final class State {
        int bits;
        int modulus;
        int power;
        int slant;
        int nameCount;
        int pointCount;
        int undoCount;
        private final Polynomial[] names = polynomials(MOST_NAMES);
        private final int[] points = new int[MOST_POINTS];
        private final Polynomial[] undoTold = polynomials(MOST_UNDONE);
        private final int[] undoNames = new int[MOST_UNDONE];

        State() {
            begin();
        }

        void begin() {
            bits = 1;
            modulus = 3;
            power = 0;
            slant = 0;
            nameCount = 0;
            pointCount = 0;
            undoCount = 0;
        }

        void tellTo(Field field) {
            field.tell(bits, modulus, power, slant);
        }

        void copy(State from) {
            bits = from.bits;
            modulus = from.modulus;
            power = from.power;
            slant = from.slant;
            nameCount = from.nameCount;
            pointCount = from.pointCount;
            undoCount = from.undoCount;
            for (int i = 0; i < MOST_NAMES; i++) {
                names[i].copy(from.names[i]);
            }
            for (int p = 0; p < MOST_POINTS; p++) {
                points[p] = from.points[p];
            }
            for (int k = 0; k < MOST_UNDONE; k++) {
                undoTold[k].copy(from.undoTold[k]);
                undoNames[k] = from.undoNames[k];
            }
        }

        Polynomial named(int i) {
            return i >= 0 && i < nameCount && i < MOST_NAMES ? names[i] : null;
        }

        void putName(int i, Polynomial f) {
            if (i >= 0 && i < MOST_NAMES) {
                names[i].copy(f);
                nameCount = Math.max(nameCount, i + 1);
            }
        }

        int point(int p) {
            return p >= 0 && p < MOST_POINTS ? points[p] : 0;
        }

        void putPoints(int[] row, int count) {
            pointCount = Math.min(count, Math.min(MOST_POINTS, row.length));
            for (int p = 0; p < pointCount; p++) {
                points[p] = row[p];
            }
        }

        /** What the NAME tells now can be told again; the oldest such is forgotten where there are too many. */
        void remember(int i) {
            if (i < 0 || i >= MOST_NAMES) {
                return;
            }
            if (undoCount >= MOST_UNDONE) {
                for (int k = 1; k < MOST_UNDONE; k++) {
                    undoTold[k - 1].copy(undoTold[k]);
                    undoNames[k - 1] = undoNames[k];
                }
                undoCount = MOST_UNDONE - 1;
            }
            if (undoCount >= 0) {
                undoTold[undoCount].copy(names[i]);
                undoNames[undoCount] = i;
                undoCount++;
            }
        }

        int undoLatest() {
            if (undoCount < 1 || undoCount > MOST_UNDONE) {
                return NONE;
            }
            undoCount--;
            putName(undoNames[undoCount], undoTold[undoCount]);
            return undoCount;
        }
    }

    /** The rows that one depth of brackets works with. */
    private static final class Level {
        final Polynomial sum = new Polynomial();
        final Polynomial term = new Polynomial();
        final Polynomial atom = new Polynomial();
        final Polynomial first = new Polynomial();
    }

    /** Reads a SCRIPT, a LINE a call, into a State of its own, so that a FAULT leaves all else as it is. */
    private static final class Reader {
        private static final String KEYWORDS = "field turn slope x quo rem lquo lrem gcd lgcd lcm llcm ";
        private static final int FIELD = 0;
        private static final int TURN = 1;
        private static final int SLOPE = 2;
        private static final int LETTER = 3;
        private static final int QUO = 4;
        private static final int LQUO = 6;
        private static final int LREM = 7;
        private static final int LGCD = 9;
        private static final int LCM = 10;
        private static final int LLCM = 11;

        /** A sign that is a TOKEN is its own kind; these are above all signs. */
        private static final int WORD = 256;
        private static final int NUMBER = 257;
        private static final int END = 258;
        private static final int NO_TOKEN = 259;
        private static final String SIGNS = ";=+*^(),";

        private static final int MOST_SCRIPT = 500;
        private static final int MOST_LETTERS = 6;
        private static final int MOST_DIGITS = 3;
        private static final int MOST_BRACKETS = 6;
        private static final int MOST_POWER = 16;

        private static final int CANNOT_COME = 1;
        private static final int NO_SUCH_NUMBER = 2;
        private static final int NO_SUCH_NAME = 3;
        private static final int TOO_MUCH = 4;
        private static final int BY_ZERO = 5;

        final State told = new State();
        int lines = 0;
        int faultKind = 0;
        int faultPlace = 0;
        private final Ring ring = new Ring();
        private final int[] nameCodes = new int[MOST_NAMES];
        private final Level[] levels = new Level[MOST_BRACKETS + 1];
        private final Polynomial quotient = new Polynomial();
        private final Polynomial rest = new Polynomial();
        private final int[] text = new int[MOST_BYTES];
        private int length = 0;
        /** Of field, turn, slope the first that can still come. */
        private int nextHead = 0;
        /** The TOKEN that comes next: its kind, place, and number or letters; and where the one behind it may begin. */
        private int kind = END;
        private int place = 0;
        private int content = 0;
        private int behind = 0;

        Reader() {
            for (int k = 0; k <= MOST_BRACKETS; k++) {
                levels[k] = new Level();
            }
        }

        void begin(Tape tape) {
            length = Math.min(tape.length, MOST_BYTES);
            for (int k = 0; k < length; k++) {
                text[k] = tape.byteAt(k);
            }
            told.begin();
            told.tellTo(ring.field);
            lines = 0;
            faultKind = 0;
            faultPlace = 0;
            nextHead = FIELD;
            behind = 0;
            scan();
        }

        boolean goesOn() {
            return faultKind == 0 && (kind != END || length > MOST_SCRIPT);
        }

        /** Whether field, turn or slope comes where it can. */
        boolean isAtHead() {
            return faultKind == 0 && isHead() && keyword(content) >= nextHead;
        }

        private boolean isHead() {
            int keyword = kind == WORD ? keyword(content) : NONE;
            return keyword != NONE && keyword <= SLOPE;
        }

        /** The latest FAULT can only be the first: nothing is read behind it. */
        private boolean refuse(int fault, int at) {
            faultKind = fault;
            faultPlace = at;
            return false;
        }

        private boolean pass(int wanted) {
            if (kind != wanted) {
                return refuse(CANNOT_COME, place);
            }
            scan();
            return true;
        }

        private boolean isNumber(int least, int most) {
            if (kind != NUMBER) {
                return refuse(CANNOT_COME, place);
            }
            if (content < least || content > most) {
                return refuse(NO_SUCH_NUMBER, place);
            }
            return true;
        }

        void headLine() {
            int head = keyword(content);
            nextHead = head + 1;
            scan();
            if (!isHeadNumber(head)) {
                return;
            }
            if (head == FIELD) {
                told.modulus = content;
            } else if (head == TURN) {
                told.power = content;
            } else {
                told.slant = content;
            }
            told.tellTo(ring.field);
            scan();
            endLine();
        }

        private void endLine() {
            if (pass(';')) {
                lines++;
            }
        }

        private boolean isHeadNumber(int head) {
            if (head == FIELD) {
                return fieldNumbers();
            }
            return isNumber(0, head == TURN ? told.bits - 1 : (1 << told.bits) - 1);
        }

        private boolean fieldNumbers() {
            if (!isNumber(1, MOST_BITS)) {
                return false;
            }
            told.bits = content;
            scan();
            if (!isNumber(1 << told.bits, (2 << told.bits) - 1)) {
                return false;
            }
            return isUndivided(content, told.bits) || refuse(NO_SUCH_NUMBER, place);
        }

        private static boolean isUndivided(int modulus, int bits) {
            for (int divisor = 2; divisor < 1 << bits; divisor++) {
                if (bitRest(modulus, divisor) == 0) {
                    return false;
                }
            }
            return true;
        }

        private static int bitRest(int number, int divisor) {
            int highest = 0;
            for (int bit = 0; bit <= MOST_BITS; bit++) {
                if (divisor >>> bit != 0) {
                    highest = bit;
                }
            }
            int left = number;
            for (int bit = MOST_BITS; bit >= highest; bit--) {
                if ((left >>> bit & 1) == 1) {
                    left ^= divisor << (bit - highest);
                }
            }
            return left;
        }

        /** A LINE behind those of field, turn, slope: one of these that comes yet comes too late. */
        void nameLine() {
            int code = content;
            if (kind != WORD || keyword(code) != NONE) {
                refuse(isHead() ? NO_SUCH_NAME : CANNOT_COME, place);
                return;
            }
            int name = nameOf(code);
            if (name == NONE && told.nameCount >= MOST_NAMES) {
                refuse(TOO_MUCH, place);
                return;
            }
            scan();
            if (!pass('=') || !sum(0)) {
                return;
            }
            if (name == NONE) {
                name = told.nameCount;
            }
            if (name >= 0 && name < MOST_NAMES) {
                nameCodes[name] = code;
                told.putName(name, level(0).sum);
            }
            endLine();
        }

        private int nameOf(int code) {
            for (int i = 0; i < told.nameCount && i < MOST_NAMES; i++) {
                if (nameCodes[i] == code) {
                    return i;
                }
            }
            return NONE;
        }

        private Level level(int depth) {
            return levels[Math.max(0, Math.min(depth, MOST_BRACKETS))];
        }

        private boolean sum(int depth) {
            Level here = level(depth);
            here.sum.clear();
            for (int k = 0; k < MOST_BYTES; k++) {
                if (!term(depth)) {
                    return false;
                }
                here.sum.add(here.term);
                if (kind != '+') {
                    return true;
                }
                scan();
            }
            return refuse(CANNOT_COME, place);
        }

        private boolean term(int depth) {
            Level here = level(depth);
            if (!power(depth)) {
                return false;
            }
            here.term.copy(here.atom);
            for (int k = 0; k < MOST_BYTES && kind == '*'; k++) {
                int star = place;
                scan();
                if (!power(depth)) {
                    return false;
                }
                if (!ring.multiply(here.term, here.atom, here.term)) {
                    return refuse(TOO_MUCH, star);
                }
            }
            return true;
        }

        private boolean power(int depth) {
            if (!atom(depth)) {
                return false;
            }
            if (kind != '^') {
                return true;
            }
            int hat = place;
            scan();
            if (!isNumber(0, MOST_POWER)) {
                return false;
            }
            int exponent = content;
            scan();
            return ring.raise(level(depth).atom, exponent) || refuse(TOO_MUCH, hat);
        }

        private boolean atom(int depth) {
            if (kind == '(') {
                return bracket(depth);
            }
            if (kind == WORD) {
                return wordAtom(depth);
            }
            if (!isNumber(0, ring.field.size - 1)) {
                return false;
            }
            level(depth).atom.constant(content);
            scan();
            return true;
        }

        private boolean bracket(int depth) {
            if (depth >= MOST_BRACKETS) {
                return refuse(TOO_MUCH, place);
            }
            scan();
            if (!sum(depth + 1) || !pass(')')) {
                return false;
            }
            level(depth).atom.copy(level(depth + 1).sum);
            return true;
        }

        private boolean wordAtom(int depth) {
            int keyword = keyword(content);
            if (keyword >= QUO) {
                return what(keyword, depth);
            }
            if (keyword == LETTER) {
                level(depth).atom.letter();
            } else if (keyword != NONE) {
                return refuse(CANNOT_COME, place);
            } else {
                Polynomial f = told.named(nameOf(content));
                if (f == null) {
                    return refuse(NO_SUCH_NAME, place);
                }
                level(depth).atom.copy(f);
            }
            scan();
            return true;
        }

        private boolean what(int keyword, int depth) {
            int at = place;
            if (depth >= MOST_BRACKETS) {
                return refuse(TOO_MUCH, at);
            }
            scan();
            if (!pass('(') || !sum(depth + 1) || !pass(',')) {
                return false;
            }
            level(depth).first.copy(level(depth + 1).sum);
            if (!sum(depth + 1) || !pass(')')) {
                return false;
            }
            Polynomial f = level(depth).first;
            Polynomial g = level(depth + 1).sum;
            if (keyword <= LREM) {
                return quotientOrRest(keyword, f, g, level(depth).atom) || refuse(BY_ZERO, at);
            }
            return partOrMultiple(keyword, f, g, level(depth).atom) || refuse(TOO_MUCH, at);
        }

        private boolean quotientOrRest(int keyword, Polynomial f, Polynomial g, Polynomial out) {
            if (!ring.divide(keyword < LQUO ? RIGHT : LEFT, f, g, quotient, rest)) {
                return false;
            }
            out.copy(keyword == QUO || keyword == LQUO ? quotient : rest);
            return true;
        }

        private boolean partOrMultiple(int keyword, Polynomial f, Polynomial g, Polynomial out) {
            ring.compare(keyword == LGCD || keyword == LLCM ? LEFT : RIGHT, f, g);
            if (keyword < LCM) {
                out.copy(ring.part);
                return true;
            }
            out.copy(ring.multiple);
            return ring.multipleFits;
        }

        private static int keyword(int code) {
            int built = 0;
            int found = 0;
            for (int k = 0; k < KEYWORDS.length(); k++) {
                char sign = KEYWORDS.charAt(k);
                if (sign != ' ') {
                    built = withLetter(built, sign);
                } else if (built == code) {
                    return found;
                } else {
                    built = 0;
                    found++;
                }
            }
            return NONE;
        }

        private static int withLetter(int code, int letter) {
            return code << 5 | (letter & 31);
        }

        /** A FAULT of a TOKEN is told only when its turn comes: it may be looked at while one ahead of it is worked out. */
        private void scan() {
            int limit = Math.min(length, MOST_SCRIPT);
            while (behind < limit && (signAt(behind) == 32 || signAt(behind) == 10)) {
                behind++;
            }
            // A TOKEN that is read whole may have led behind the limit: the end is the limit all the same.
            place = Math.min(behind, limit);
            content = 0;
            if (behind >= limit) {
                kind = END;
            } else if (isLetter(signAt(behind)) || isDigit(signAt(behind))) {
                scanRun();
            } else {
                kind = SIGNS.indexOf((char) signAt(behind)) >= 0 ? signAt(behind) : NO_TOKEN;
                behind++;
            }
        }

        private void scanRun() {
            int letters = 0;
            int digits = 0;
            int code = 0;
            int number = 0;
            while (behind < length && (isLetter(signAt(behind)) || isDigit(signAt(behind)))) {
                int sign = signAt(behind);
                if (isLetter(sign)) {
                    letters++;
                    code = withLetter(code, sign);
                } else {
                    digits++;
                    number = number * 10 + sign - '0';
                }
                behind++;
            }
            if (digits == 0 && letters <= MOST_LETTERS) {
                kind = WORD;
                content = code;
            } else if (letters == 0 && digits <= MOST_DIGITS) {
                kind = NUMBER;
                content = number;
            } else {
                kind = NO_TOKEN;
            }
        }

        private int signAt(int at) {
            return at >= 0 && at < MOST_BYTES ? text[at] : 0;
        }

        private static boolean isLetter(int sign) {
            return sign >= 'a' && sign <= 'z';
        }

        private static boolean isDigit(int sign) {
            return sign >= '0' && sign <= '9';
        }
    }

    /** Goes through MONIC polynomials by their NUMBERS for DIVISORS and FACTORINGS. */
    private static final class Splitter {
        private static final int ALL = -1;

        private final Polynomial candidate = new Polynomial();
        private final Polynomial smaller = new Polynomial();
        private final Polynomial rest = new Polynomial();
        /** What is left of f behind so many factors, and these factors' NUMBERS, the last factor first. */
        private final Polynomial[] parts = polynomials(MOST_FACTORED + 1);
        private final int[] chosen = new int[MOST_FACTORED + 1];
        private int wanted = ALL;
        private int found = 0;
        private int factors = 0;

        int divisor(Ring ring, Polynomial f, int n, int k) {
            if (k < NONE) {
                return NONE;
            }
            int count = 0;
            int end = n > f.top() ? 0 : 1 << (ring.field.bits * n);
            for (int low = 0; low < end; low++) {
                putMonic(ring.field, candidate, low, n);
                if (ring.dividesFromRight(candidate, f)) {
                    if (count == k) {
                        return end + low;
                    }
                    count++;
                }
            }
            return k == NONE ? count : NONE;
        }

        int countFactorings(Ring ring, Polynomial f) {
            begin(ring, f, ALL);
            search(ring, 0);
            return found;
        }

        int factorOf(Ring ring, Polynomial f, int k, int p) {
            if (k < 0) {
                return NONE;
            }
            begin(ring, f, k);
            search(ring, 0);
            int place = factors - 1 - p;
            if (!isDone() || p < 0 || place < 0 || place > MOST_FACTORED) {
                return NONE;
            }
            return chosen[place];
        }

        private void begin(Ring ring, Polynomial f, int k) {
            wanted = k;
            found = 0;
            factors = 0;
            parts[0].copy(f);
            ring.makeMonic(parts[0]);
        }

        private boolean isDone() {
            return wanted != ALL && found > wanted;
        }

        /** All factorings of what is left behind so many factors; a factor itself, where none of a lesser degree divides it. */
        private void search(Ring ring, int depth) {
            if (depth < 0 || depth > MOST_FACTORED) {
                return;
            }
            Polynomial f = parts[depth];
            int n = f.top();
            if (n < 1) {
                found++;
                factors = depth;
                return;
            }
            boolean divided = false;
            for (int d = 1; d < n; d++) {
                int end = 1 << (ring.field.bits * d);
                for (int low = 0; low < end && !isDone(); low++) {
                    putMonic(ring.field, candidate, low, d);
                    if (ring.dividesFromRight(candidate, f) && isUndivided(ring, candidate)) {
                        divided = true;
                        choose(ring, depth, end + low);
                    }
                }
            }
            if (!divided && !isDone()) {
                candidate.copy(f);
                choose(ring, depth, numberOf(ring.field, f));
            }
        }

        private void choose(Ring ring, int depth, int number) {
            if (depth < 0 || depth >= MOST_FACTORED) {
                return;
            }
            chosen[depth] = number;
            ring.divide(RIGHT, parts[depth], candidate, parts[depth + 1], rest);
            search(ring, depth + 1);
        }

        private boolean isUndivided(Ring ring, Polynomial f) {
            int n = f.top();
            for (int d = 1; d < n; d++) {
                int end = 1 << (ring.field.bits * d);
                for (int low = 0; low < end; low++) {
                    putMonic(ring.field, smaller, low, d);
                    if (ring.dividesFromRight(smaller, f)) {
                        return false;
                    }
                }
            }
            return true;
        }

        private static void putMonic(Field field, Polynomial f, int low, int n) {
            f.clear();
            for (int j = 0; j < n; j++) {
                f.put(j, low >>> (field.bits * j) & (field.size - 1));
            }
            f.put(n, 1);
        }

        private static int numberOf(Field field, Polynomial f) {
            int number = 0;
            for (int j = f.top(); j >= 0; j--) {
                number = number << field.bits | f.get(j);
            }
            return number;
        }
    }

    /** All sums of a few rows of numbers, each packed into one long, in Gray's order: each step adds one row. */
    private static final class Span {
        private final long[] rows = new long[FEW_BITS];
        private final int[] pivots = new int[MOST_BITS];
        private final int[] multiple = new int[SIZE];
        private int count = 0;
        private int bits = 1;

        void begin(Field field) {
            count = 0;
            bits = field.bits;
        }

        void addRow(int[] row, int length) {
            if (count >= 0 && count < FEW_BITS) {
                rows[count] = packed(row, length);
                count++;
            }
        }

        /** The row by each 2^e: their sums are the row by each number. */
        void addTimes(Field field, int[] row, int length) {
            for (int e = 0; e < bits; e++) {
                for (int k = 0; k < SIZE; k++) {
                    multiple[k] = 0;
                }
                field.addTimes(multiple, 1 << e, row, length - 1);
                addRow(multiple, length);
            }
        }

        long packed(int[] row, int length) {
            long sum = 0;
            for (int k = 0; k < length && k < row.length; k++) {
                sum |= (long) row[k] << (bits * k);
            }
            return sum;
        }

        private int unpacked(long word, int k) {
            return (int) (word >>> (bits * k)) & ((1 << bits) - 1);
        }

        int sums() {
            return 1 << count;
        }

        /** The row that makes the k-th sum of the one ahead of it. */
        long step(int k) {
            int lowest = Integer.bitCount((k & -k) - 1);
            return lowest < FEW_BITS ? rows[lowest] : 0;
        }

        /** Which rows are in the k-th sum, as bits. */
        int code(int k) {
            return k ^ k >>> 1;
        }

        void putPolynomial(int code, Polynomial out) {
            for (int j = 0; j < SIZE; j++) {
                out.put(j, bits * j < FEW_BITS ? unpacked(code, j) : 0);
            }
        }

        int leastWeight(int length) {
            int least = length;
            long word = 0;
            for (int k = 1; k < sums(); k++) {
                word ^= step(k);
                int weight = 0;
                for (int p = 0; p < length; p++) {
                    weight += unpacked(word, p) != 0 ? 1 : 0;
                }
                least = Math.min(least, weight);
            }
            return least;
        }

        int leastRank(int length) {
            int least = length;
            long word = 0;
            for (int k = 1; k < sums() && least > 0; k++) {
                word ^= step(k);
                least = Math.min(least, rankOfPacked(word, length));
            }
            return least;
        }

        /** The code of the only sum that differs so little in RANK from the told word; NONE without or with more. */
        int onlyNear(long told, int length, int radius) {
            int only = NONE;
            long word = told;
            for (int k = 0; k < sums(); k++) {
                word ^= k > 0 ? step(k) : 0;
                if (rankOfPacked(word, length) <= radius) {
                    if (only != NONE) {
                        return NONE;
                    }
                    only = code(k);
                }
            }
            return only;
        }

        private int rankOfPacked(long word, int length) {
            clearPivots();
            int rank = 0;
            for (int p = 0; p < length; p++) {
                rank += addsRank(unpacked(word, p)) ? 1 : 0;
            }
            return rank;
        }

        int rankOf(int[] row, int from, int to) {
            clearPivots();
            int rank = 0;
            for (int p = Math.max(from, 0); p < to && p < row.length; p++) {
                rank += addsRank(row[p]) ? 1 : 0;
            }
            return rank;
        }

        private void clearPivots() {
            for (int bit = 0; bit < MOST_BITS; bit++) {
                pivots[bit] = 0;
            }
        }

        private boolean addsRank(int number) {
            int left = number;
            for (int bit = MOST_BITS - 1; bit >= 0; bit--) {
                if ((left >>> bit & 1) == 1) {
                    if (pivots[bit] == 0) {
                        pivots[bit] = left;
                        return true;
                    }
                    left ^= pivots[bit];
                }
            }
            return false;
        }
    }

    /** The determinant grows a row at a time: for each set of columns that of the first rows. */
    private static final class Norm {
        private final Polynomial[] minors = polynomials(1 << MOST_ROUND);
        private final Polynomial cell = new Polynomial();
        private final int[] inY = new int[SIZE];

        void take(Field field, Polynomial f, Polynomial out) {
            writeInY(field, f);
            int n = f.top();
            int round = Math.min(field.round, MOST_ROUND);
            minors[0].constant(1);
            for (int set = 1; set < 1 << round; set++) {
                minors[set].clear();
                for (int k = 0; k < round; k++) {
                    if ((set >>> k & 1) == 1) {
                        putCell(field, Integer.bitCount(set) - 1, k, n);
                        addProduct(field, minors[set ^ 1 << k], minors[set]);
                    }
                }
            }
            out.copy(minors[(1 << round) - 1]);
        }

        /** x is y + C, and y passes a number as t of it, with no slope. */
        private void writeInY(Field field, Polynomial f) {
            for (int k = 0; k < SIZE; k++) {
                inY[k] = 0;
            }
            for (int j = f.top(); j >= 0; j--) {
                for (int k = MOST_DEGREE; k > 0; k--) {
                    inY[k] = inY[k - 1] ^ field.product(inY[k], field.turn(field.slant, k));
                }
                inY[0] = field.product(inY[0], field.slant) ^ f.get(j);
            }
        }

        private void putCell(Field field, int row, int column, int n) {
            cell.clear();
            for (int k = 0; k <= n && k < SIZE; k++) {
                int power = k + row - column;
                if (field.round > 0 && power >= 0 && power % field.round == 0) {
                    cell.put(power / field.round, field.turn(inY[k], row));
                }
            }
        }

        private void addProduct(Field field, Polynomial minor, Polynomial sum) {
            for (int j = 0; j < SIZE; j++) {
                for (int k = 0; j + k < SIZE; k++) {
                    sum.numbers[j + k] ^= field.product(cell.numbers[j], minor.numbers[k]);
                }
            }
        }
    }

    /** The shortest register of a row: for each length the numbers are asked of linear equations. */
    private static final class Register {
        private final int[] taps = new int[MOST_WORD + 1];
        private int length = 0;
        /** An equation a row: the number of place i stands at i, what the sum is at 0. */
        private final int[][] rows = new int[MOST_WORD][MOST_WORD + 1];
        private final int[] solvedBy = new int[MOST_WORD + 1];
        private int count = 0;

        int find(Field field, int[] row, int most) {
            for (int tried = 0; tried <= most; tried++) {
                fill(field, row, most, tried);
                if (isSolved(field, tried)) {
                    putTaps(tried);
                    return length;
                }
            }
            return NONE;
        }

        int tapAt(int i) {
            return i >= 1 && i <= length && i <= MOST_WORD ? taps[i] : NONE;
        }

        private void fill(Field field, int[] row, int most, int tried) {
            count = 0;
            for (int j = tried; j < most && j < row.length && count < MOST_WORD; j++) {
                rows[count][0] = row[j];
                for (int i = 1; i <= tried && i <= j && i <= MOST_WORD; i++) {
                    rows[count][i] = field.turn(row[j - i], i);
                }
                count++;
            }
        }

        /** Later places are solved by earlier ones, so an earlier one that is free can be 0, the least. */
        private boolean isSolved(Field field, int tried) {
            int done = 0;
            for (int i = Math.min(tried, MOST_WORD); i >= 1; i--) {
                solvedBy[i] = NONE;
                int found = rowWith(i, done);
                if (found != NONE && done < MOST_WORD) {
                    swapRows(found, done);
                    clearColumn(field, i, done, tried);
                    solvedBy[i] = done;
                    done++;
                }
            }
            for (int r = done; r < count && r < MOST_WORD; r++) {
                if (rows[r][0] != 0) {
                    return false;
                }
            }
            return true;
        }

        private int rowWith(int i, int from) {
            for (int r = from; r < count && r < MOST_WORD; r++) {
                if (rows[r][i] != 0) {
                    return r;
                }
            }
            return NONE;
        }

        private void swapRows(int a, int b) {
            int[] row = rows[a];
            rows[a] = rows[b];
            rows[b] = row;
        }

        private void clearColumn(Field field, int i, int solver, int width) {
            int number = field.inverse(rows[solver][i]);
            for (int k = 0; k <= width && k <= MOST_WORD; k++) {
                rows[solver][k] = field.product(rows[solver][k], number);
            }
            for (int r = 0; r < count && r < MOST_WORD; r++) {
                if (r != solver) {
                    field.addTimes(rows[r], rows[r][i], rows[solver], width);
                }
            }
        }

        private void putTaps(int solved) {
            length = Math.min(solved, MOST_WORD);
            for (int i = 1; i <= length; i++) {
                int solver = solvedBy[i];
                taps[i] = solver >= 0 && solver < MOST_WORD ? rows[solver][0] : 0;
            }
        }
    }
}
