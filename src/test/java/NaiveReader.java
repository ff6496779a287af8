import java.util.ArrayList;
import java.util.HashMap;
import java.util.List;
import java.util.Map;

/**
 * Reads a SCRIPT as the document tells it: first all TOKENS, then the LINES, the first FAULT thrown where it is met.
 * Of the program's reader it shares nothing but the document.
 */
final class NaiveReader {
    private static final List<String> HEADS = List.of("field", "turn", "slope");
    private static final List<String> WHATS = List.of("quo", "rem", "lquo", "lrem", "gcd", "lgcd", "lcm", "llcm");

    private static final class Fault extends RuntimeException {
        private static final long serialVersionUID = 1;
        private final int kind;
        private final int place;

        Fault(int kind, int place) {
            this.kind = kind;
            this.place = place;
        }
    }

    /** "" is the end, "?" is no TOKEN. */
    private record Token(String text, int place) {
    }

    private final List<Token> tokens = new ArrayList<>();
    private final List<int[]> polynomials = new ArrayList<>();
    private final Map<String, Integer> names = new HashMap<>();
    private Naive naive = new Naive(1, 3, 0, 0);
    private int next = 0;
    private int lines = 0;
    private int kind = 0;
    private int place = 0;

    NaiveReader(String text) {
        cut(text);
        try {
            read();
        } catch (Fault fault) {
            kind = fault.kind;
            place = fault.place;
            polynomials.clear();
        }
    }

    int answer() {
        return kind == 0 ? lines : -1 - place;
    }

    int fault() {
        return kind;
    }

    List<int[]> polynomials() {
        return polynomials;
    }

    private void cut(String text) {
        int from = 0;
        while (from < Math.min(text.length(), 500)) {
            String left = text.substring(from);
            String run = left.replaceFirst("(?s)^([a-z0-9]*).*$", "$1");
            if (!run.isEmpty()) {
                tokens.add(new Token(run.matches("[a-z]{1,6}|[0-9]{1,3}") ? run : "?", from));
                from += run.length();
            } else {
                char sign = left.charAt(0);
                if (sign != ' ' && sign != '\n') {
                    tokens.add(new Token(";=+*^(),".indexOf(sign) >= 0 ? "" + sign : "?", from));
                }
                from++;
            }
        }
        tokens.add(new Token(text.length() > 500 ? "?" : "", Math.min(text.length(), 500)));
    }

    private Token peek() {
        return tokens.get(next);
    }

    private Token take() {
        return tokens.get(next++);
    }

    private Token want(String text) {
        if (!peek().text().equals(text)) {
            throw new Fault(1, peek().place());
        }
        return take();
    }

    private static boolean isWord(Token token) {
        return token.text().matches("[a-z]+");
    }

    private int number(int least, int most) {
        Token token = peek();
        if (!token.text().matches("[0-9]+")) {
            throw new Fault(1, token.place());
        }
        int number = Integer.parseInt(token.text());
        if (number < least || number > most) {
            throw new Fault(2, token.place());
        }
        next++;
        return number;
    }

    private void read() {
        int allowed = 0;
        while (!peek().text().isEmpty()) {
            Token first = peek();
            int head = HEADS.indexOf(first.text());
            if (head >= 0) {
                if (head < allowed) {
                    throw new Fault(3, first.place());
                }
                next++;
                head(head);
                allowed = head + 1;
            } else {
                allowed = 3;
                nameLine();
            }
            want(";");
            lines++;
        }
    }

    private void head(int head) {
        if (head == 0) {
            int m = number(1, 8);
            int p = number(1 << m, (2 << m) - 1);
            for (int a = 2; a < 1 << m; a++) {
                for (int b = 2; b < 1 << m; b++) {
                    if (whole(a, b) == p) {
                        throw new Fault(2, tokens.get(next - 1).place());
                    }
                }
            }
            naive = new Naive(m, p, 0, 0);
        } else if (head == 1) {
            naive = new Naive(naive.m, naive.p, number(0, naive.m - 1), 0);
        } else {
            naive = new Naive(naive.m, naive.p, naive.s, number(0, naive.size - 1));
        }
    }

    private static int whole(int a, int b) {
        int sum = 0;
        for (int k = 0; k < 8; k++) {
            sum ^= (b >> k & 1) * (a << k);
        }
        return sum;
    }

    private void nameLine() {
        Token name = peek();
        if (!isWord(name) || name.text().equals("x") || WHATS.contains(name.text())) {
            throw new Fault(1, name.place());
        }
        if (!names.containsKey(name.text()) && names.size() == 12) {
            throw new Fault(4, name.place());
        }
        next++;
        want("=");
        int[] value = sum(0);
        if (names.putIfAbsent(name.text(), names.size()) == null) {
            polynomials.add(value);
        } else {
            polynomials.set(names.get(name.text()), value);
        }
    }

    private int[] sum(int open) {
        int[] value = term(open);
        while (peek().text().equals("+")) {
            next++;
            value = Naive.add(value, term(open));
        }
        return value;
    }

    private int[] term(int open) {
        int[] value = power(open);
        while (peek().text().equals("*")) {
            int star = take().place();
            value = product(value, power(open), star);
        }
        return value;
    }

    private int[] product(int[] f, int[] g, int star) {
        if (f.length > 0 && g.length > 0 && Naive.deg(f) + Naive.deg(g) > 16) {
            throw new Fault(4, star);
        }
        int[] sum = {};
        int[] passed = g;
        for (int number : f) {
            int[] scaled = passed.clone();
            for (int k = 0; k < scaled.length; k++) {
                scaled[k] = naive.mul(number, scaled[k]);
            }
            sum = Naive.add(sum, scaled);
            int[] longer = new int[passed.length + 1];
            for (int k = 0; k < passed.length; k++) {
                longer[k + 1] ^= naive.t(passed[k]);
                longer[k] ^= naive.d(passed[k]);
            }
            passed = longer;
        }
        return Naive.trim(sum);
    }

    private int[] power(int open) {
        int[] base = atom(open);
        if (!peek().text().equals("^")) {
            return base;
        }
        int hat = take().place();
        int n = number(0, 16);
        int[] value = {1};
        for (int k = 0; k < n; k++) {
            value = product(value, base, hat);
        }
        return value;
    }

    private int[] atom(int open) {
        Token first = peek();
        if (first.text().equals("(") || WHATS.contains(first.text())) {
            if (open == 6) {
                throw new Fault(4, first.place());
            }
            next++;
            return first.text().equals("(") ? bracket(open) : what(first, open);
        }
        if (!isWord(first)) {
            int number = number(0, naive.size - 1);
            return Naive.trim(new int[] {number});
        }
        if (HEADS.contains(first.text())) {
            throw new Fault(1, first.place());
        }
        if (!first.text().equals("x") && !names.containsKey(first.text())) {
            throw new Fault(3, first.place());
        }
        next++;
        return first.text().equals("x") ? new int[] {0, 1} : polynomials.get(names.get(first.text()));
    }

    private int[] bracket(int open) {
        int[] value = sum(open + 1);
        want(")");
        return value;
    }

    private int[] what(Token what, int open) {
        want("(");
        int[] f = sum(open + 1);
        want(",");
        int[] g = sum(open + 1);
        want(")");
        boolean left = what.text().startsWith("l") && !what.text().equals("lcm");
        String kindOf = left ? what.text().substring(1) : what.text();
        if (kindOf.equals("quo") || kindOf.equals("rem")) {
            if (g.length == 0) {
                throw new Fault(5, what.place());
            }
            return divide(left, f, g)[kindOf.equals("quo") ? 0 : 1];
        }
        int[] part = part(left, f, g);
        return kindOf.equals("gcd") ? part : multiple(left, f, g, part, what.place());
    }

    private int[] by(boolean left, int[] outer, int[] inner) {
        return left ? product(inner, outer, -1) : product(outer, inner, -1);
    }

    private int[][] divide(boolean left, int[] f, int[] g) {
        int[] rest = f;
        int[] quotient = {};
        while (Naive.deg(rest) >= Naive.deg(g)) {
            int before = Naive.deg(rest);
            for (int a = 1; a < naive.size && Naive.deg(rest) == before; a++) {
                int[] single = new int[before - Naive.deg(g) + 1];
                single[single.length - 1] = a;
                int[] tried = Naive.add(rest, by(left, single, g));
                if (Naive.deg(tried) < before) {
                    rest = tried;
                    quotient = Naive.add(quotient, single);
                }
            }
        }
        return new int[][] {quotient, rest};
    }

    private int[] monic(boolean left, int[] f) {
        for (int a = 1; a < naive.size; a++) {
            int[] scaled = by(left, new int[] {a}, f);
            if (scaled.length > 0 && scaled[scaled.length - 1] == 1) {
                return scaled;
            }
        }
        return f;
    }

    private int[] part(boolean left, int[] f, int[] g) {
        return g.length == 0 ? monic(left, f) : part(left, g, divide(left, f, g)[1]);
    }

    /** The rests of f, x f, x^2 f, .. by g: the first that is a sum of those ahead of it tells what takes f to the MULTIPLE. */
    private int[] multiple(boolean left, int[] f, int[] g, int[] part, int at) {
        if (f.length == 0 || g.length == 0) {
            return new int[0];
        }
        if (Naive.deg(f) + Naive.deg(g) - Naive.deg(part) > 16) {
            throw new Fault(4, at);
        }
        List<int[]> rests = new ArrayList<>();
        List<int[]> makers = new ArrayList<>();
        for (int k = 0;; k++) {
            int[] maker = new int[k + 1];
            maker[k] = 1;
            int[] rest = divide(left, by(left, maker, f), g)[1];
            for (int i = 0; i < rests.size(); i++) {
                int[] known = rests.get(i);
                for (int a = 1; a < naive.size; a++) {
                    int[] tried = Naive.add(rest, by(left, new int[] {a}, known));
                    if (tried.length < known.length || tried[known.length - 1] == 0) {
                        if (rest.length >= known.length && rest[known.length - 1] != 0) {
                            rest = tried;
                            maker = Naive.add(maker, by(left, new int[] {a}, makers.get(i)));
                        }
                    }
                }
            }
            if (rest.length == 0) {
                return monic(left, by(left, maker, f));
            }
            insert(rests, makers, rest, maker);
        }
    }

    /** By falling degree, so that one way along takes every highest power away. */
    private static void insert(List<int[]> rests, List<int[]> makers, int[] rest, int[] maker) {
        int at = 0;
        while (at < rests.size() && rests.get(at).length > rest.length) {
            at++;
        }
        rests.add(at, rest);
        makers.add(at, maker);
    }
}
