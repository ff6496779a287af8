import java.util.ArrayList;
import java.util.List;
import java.util.Random;

/** Writes a SCRIPT and works it out on the way; at a FAULT (degree, division by 0) nothing more is worth anything. */
final class RandomScript {
    private static final String[] WHATS = {"quo", "rem", "lquo", "lrem", "gcd", "lgcd", "lcm", "llcm"};

    private final Naive naive;
    private final Random random;
    private final StringBuilder text = new StringBuilder();
    private final List<int[]> names = new ArrayList<>();
    private int lines = 0;
    private int fault = 0;
    private int place = 0;

    RandomScript(Naive naive, Random random) {
        this.naive = naive;
        this.random = random;
    }

    String text() {
        return text.toString();
    }

    int answer() {
        return fault == 0 ? lines : -1 - place;
    }

    int fault() {
        return fault;
    }

    String named(int i) {
        StringBuilder told = new StringBuilder();
        for (int number : names.get(i)) {
            told.append(told.length() > 0 ? " " : "").append(number);
        }
        return told.toString();
    }

    void write(int nameLines) {
        text.append(naive.script());
        lines = 3;
        for (int k = 0; k < nameLines && text.length() < 380; k++) {
            int name = random.nextInt(names.size() + 1);
            put("n" + (char) ('a' + name));
            put("=");
            int[] value = sum(0);
            put(";");
            lines++;
            if (name == names.size()) {
                names.add(value);
            } else {
                names.set(name, value);
            }
        }
        if (fault != 0) {
            names.clear();
        }
    }

    private void put(String token) {
        if (random.nextInt(6) == 0) {
            text.append(random.nextBoolean() ? " " : "\n");
        }
        text.append(token);
    }

    private int putAt(String token) {
        put(token);
        return text.length() - token.length();
    }

    private int[] refuse(int kind, int at) {
        if (fault == 0) {
            fault = kind;
            place = at;
        }
        return new int[0];
    }

    private int[] sum(int depth) {
        int[] value = term(depth);
        while (random.nextInt(3) == 0 && text.length() < 400) {
            put("+");
            value = Naive.add(value, term(depth));
        }
        return value;
    }

    private int[] term(int depth) {
        int[] value = power(depth);
        while (random.nextInt(3) == 0 && text.length() < 400) {
            int star = putAt("*");
            int[] next = power(depth);
            if (value.length > 0 && next.length > 0 && Naive.deg(value) + Naive.deg(next) > 16) {
                value = refuse(4, star);
            } else {
                value = naive.times(value, next);
            }
        }
        return value;
    }

    private int[] power(int depth) {
        int[] base = atom(depth);
        if (random.nextInt(4) != 0) {
            return base;
        }
        int hat = putAt("^");
        int n = random.nextInt(5);
        put(Integer.toString(n));
        if (Naive.deg(base) * n > 16) {
            return refuse(4, hat);
        }
        int[] value = {1};
        for (int k = 0; k < n; k++) {
            value = naive.times(value, base);
        }
        return value;
    }

    private int[] atom(int depth) {
        int kind = random.nextInt(depth < 6 && text.length() < 360 ? 6 : 3);
        if (kind == 0) {
            int number = random.nextInt(naive.size);
            put(" " + number + " ");
            return Naive.trim(new int[] {number});
        }
        if (kind == 1 || kind == 2 && names.isEmpty()) {
            put(" x ");
            return new int[] {0, 1};
        }
        if (kind == 2) {
            int name = random.nextInt(names.size());
            put(" n" + (char) ('a' + name) + " ");
            return names.get(name);
        }
        if (kind == 3 || naive.m > 3) {
            put("(");
            int[] value = sum(depth + 1);
            put(")");
            return value;
        }
        return what(depth);
    }

    private int[] what(int depth) {
        int which = random.nextInt(WHATS.length);
        int at = putAt(WHATS[which]);
        put("(");
        int[] f = sum(depth + 1);
        put(",");
        int[] g = sum(depth + 1);
        put(")");
        if (fault != 0) {
            return new int[0];
        }
        boolean left = which == 2 || which == 3 || which == 5 || which == 7;
        if (which < 4) {
            return g.length == 0 ? refuse(5, at) : naive.divide(left, f, g)[which % 2];
        }
        return which < 6 ? part(left, f, g) : multiple(left, f, g, at);
    }

    /** By dividing as long as there is a rest. */
    private int[] part(boolean left, int[] f, int[] g) {
        int[] one = f;
        int[] other = g;
        while (other.length > 0) {
            int[] rest = naive.divide(left, one, other)[1];
            one = other;
            other = rest;
        }
        return naive.monic(left, one);
    }

    private int[] multiple(boolean left, int[] f, int[] g, int at) {
        if (f.length == 0 || g.length == 0) {
            return new int[0];
        }
        if (Naive.deg(f) + Naive.deg(g) - Naive.deg(part(left, f, g)) > 16) {
            return refuse(4, at);
        }
        int[] one = f;
        int[] other = g;
        int[] now = {1};
        int[] next = {};
        while (other.length > 0) {
            int[][] by = naive.divide(left, one, other);
            int[] behind = Naive.add(now, left ? naive.times(next, by[0]) : naive.times(by[0], next));
            now = next;
            next = behind;
            one = other;
            other = by[1];
        }
        return naive.monic(left, left ? naive.times(f, next) : naive.times(next, f));
    }
}
