import java.util.ArrayList;
import java.util.List;

/** Reads a SCRIPT as the document tells it, by PlainRing; the first FAULT is thrown, and all reading ends there. */
final class PlainScript {
    private static final List<String> KEYWORDS =
        List.of("field", "turn", "slope", "x", "quo", "rem", "lquo", "lrem", "gcd", "lgcd", "lcm", "llcm");
    private static final int MOST = 500;

    /** Of one kind with its sign: a WORD w, a NUMBER n, the end e, no TOKEN ?, a sign that is one itself. */
    private record Token(char kind, String text, int place, int behind) {
        boolean is(char sign) {
            return kind == sign;
        }

        boolean isWord(String word) {
            return kind == 'w' && text.equals(word);
        }

        boolean isName() {
            return kind == 'w' && !KEYWORDS.contains(text);
        }
    }

    private static final class Fault extends RuntimeException {
        private static final long serialVersionUID = 1L;
        final int kind;
        final int place;

        Fault(int kind, int place) {
            this.kind = kind;
            this.place = place;
        }
    }

    PlainRing ring = new PlainRing(1, 3, 0, 0);
    final List<int[]> told = new ArrayList<>();
    int lines = 0;
    int fault = 0;
    int place = 0;
    private final List<String> names = new ArrayList<>();
    private final String text;
    private Token next;

    PlainScript(String text) {
        this.text = text;
        next = tokenFrom(0);
        try {
            readAll();
        } catch (Fault first) {
            fault = first.kind;
            place = first.place;
        }
    }

    private Token tokenFrom(int from) {
        int at = from;
        while (at < text.length() && at < MOST && " \n".indexOf(text.charAt(at)) >= 0) {
            at++;
        }
        int end = Math.min(text.length(), MOST);
        if (at >= end) {
            return new Token('e', "", end, end);
        }
        int behind = at;
        while (behind < text.length() && isOfRun(text.charAt(behind))) {
            behind++;
        }
        if (behind == at) {
            char sign = text.charAt(at);
            return new Token(";=+*^(),".indexOf(sign) >= 0 ? sign : '?', "" + sign, at, at + 1);
        }
        String run = text.substring(at, behind);
        char kind = run.matches("[a-z]{1,6}") ? 'w' : run.matches("[0-9]{1,3}") ? 'n' : '?';
        return new Token(kind, run, at, behind);
    }

    private static boolean isOfRun(char sign) {
        return sign >= 'a' && sign <= 'z' || sign >= '0' && sign <= '9';
    }

    private Token take() {
        Token taken = next;
        next = tokenFrom(taken.behind);
        return taken;
    }

    private Token take(char kind) {
        if (!next.is(kind)) {
            throw new Fault(1, next.place);
        }
        return take();
    }

    private int takeNumber(int least, int most) {
        Token number = take('n');
        int value = Integer.parseInt(number.text);
        if (value < least || value > most) {
            throw new Fault(2, number.place);
        }
        return value;
    }

    private void readAll() {
        int heads = 0;
        while (!next.is('e')) {
            int head = next.is('w') ? KEYWORDS.indexOf(next.text) : -1;
            if (head >= 0 && head < 3) {
                if (head < heads) {
                    throw new Fault(3, next.place);
                }
                heads = head + 1;
                take();
                readHead(head);
            } else {
                heads = 3;
                readName();
            }
            take(';');
            lines++;
        }
        if (text.length() > MOST) {
            throw new Fault(1, MOST);
        }
    }

    private void readHead(int head) {
        if (head == 0) {
            int m = takeNumber(1, 8);
            int at = next.place;
            int p = takeNumber(1 << m, (1 << m + 1) - 1);
            if (!isUndivided(p, m)) {
                throw new Fault(2, at);
            }
            ring = new PlainRing(m, p, 0, 0);
        } else if (head == 1) {
            ring = new PlainRing(ring.m, ring.p, takeNumber(0, ring.m - 1), 0);
        } else {
            ring = new PlainRing(ring.m, ring.p, ring.s, takeNumber(0, ring.size - 1));
        }
    }

    /** No two polynomials of degree 1 or more make it. */
    private static boolean isUndivided(int p, int m) {
        for (int f = 2; f < 1 << m; f++) {
            for (int g = 2; g < 1 << m; g++) {
                int product = 0;
                for (int k = 0; k < 8; k++) {
                    product ^= (g >> k & 1) == 1 ? f << k : 0;
                }
                if (product == p) {
                    return false;
                }
            }
        }
        return true;
    }

    private void readName() {
        if (!next.isName()) {
            throw new Fault(1, next.place);
        }
        int known = names.indexOf(next.text);
        if (known < 0 && names.size() == 12) {
            throw new Fault(4, next.place);
        }
        Token name = take();
        take('=');
        int[] value = expression(0);
        if (known < 0) {
            names.add(name.text);
            told.add(value);
        } else {
            told.set(known, value);
        }
    }

    private int[] expression(int brackets) {
        int[] value = product(brackets);
        while (next.is('+')) {
            take();
            value = PlainRing.sum(value, product(brackets));
        }
        return value;
    }

    private int[] product(int brackets) {
        int[] value = power(brackets);
        while (next.is('*')) {
            Token star = take();
            value = ring.product(value, power(brackets));
            checkDegree(value, star);
        }
        return value;
    }

    private static void checkDegree(int[] value, Token at) {
        if (PlainRing.degree(value) > 16) {
            throw new Fault(4, at.place);
        }
    }

    private int[] power(int brackets) {
        int[] base = atom(brackets);
        if (!next.is('^')) {
            return base;
        }
        Token hat = take();
        int n = takeNumber(0, 16);
        int[] value = {1};
        for (int k = 0; k < n; k++) {
            value = ring.product(value, base);
            checkDegree(value, hat);
        }
        return value;
    }

    private int[] atom(int brackets) {
        if (next.is('n')) {
            return PlainRing.trimmed(takeNumber(0, ring.size - 1));
        }
        boolean opens = next.is('(') || next.is('w') && KEYWORDS.indexOf(next.text) > 3;
        if (opens && brackets == 6) {
            throw new Fault(4, next.place);
        }
        if (next.is('(')) {
            take();
            int[] value = expression(brackets + 1);
            take(')');
            return value;
        }
        if (opens) {
            return what(brackets);
        }
        if (next.isWord("x")) {
            take();
            return new int[] {0, 1};
        }
        if (!next.isName()) {
            throw new Fault(1, next.place);
        }
        int known = names.indexOf(next.text);
        if (known < 0) {
            throw new Fault(3, next.place);
        }
        take();
        return told.get(known);
    }

    private int[] what(int brackets) {
        Token what = take();
        take('(');
        int[] f = expression(brackets + 1);
        take(',');
        int[] g = expression(brackets + 1);
        take(')');
        boolean left = what.text.charAt(0) == 'l' && !what.isWord("lcm");
        if (what.text.endsWith("quo") || what.text.endsWith("rem")) {
            if (g.length == 0) {
                throw new Fault(5, what.place);
            }
            return ring.divided(left, f, g)[what.text.endsWith("quo") ? 0 : 1];
        }
        if (what.text.endsWith("gcd")) {
            return ring.common(left, f, g)[0];
        }
        int[] multiple = ring.multiple(left, f, g);
        checkDegree(multiple, what);
        return multiple;
    }
}
