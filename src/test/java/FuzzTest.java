import java.util.NoSuchElementException;
import java.util.Random;

/** No call throws by itself, and none but the three that may throw at all; the same calls give the same answers. */
final class FuzzTest {
    private static final int[] ODD = {-1, -2, 4, 16, 17, 99, 100, 255, 256, 511, 512, 1 << 28, 1 << 30, Integer.MIN_VALUE,
        Integer.MAX_VALUE, Integer.MIN_VALUE + 1};
    private static final String[] TOKENS = {"field ", "turn ", "slope ", "x", "quo", "rem", "lquo", "lrem", "gcd", "lgcd", "lcm",
        "llcm", "a", "b", "name", ";", ";", "=", "+", "*", "^", "(", ")", ",", "0", "1", "2", "7", "16", "17", " ", "\n", "?"};
    private static final String[] HEADS = {"", "field 2 7;turn 1;slope 2;", "field 3 11;turn 1;", "field 4 19;turn 2;slope 9;",
        "field 8 283;turn 4;slope 3;", "field 1 2;", "field 6 67;turn 3;", "field 5 37;"};
    private static final String[] LINES = {"a=x;", "b=x^2+1;", "c=(x+1)^3;", "d=a*a;", "e=gcd(x^2,x);", "f=x^16;", "g=0;", "h=1;",
        "a=lcm(x^3,x+1);", "b=rem(x^5,x^2+x+1);"};

    private FuzzTest() {
    }

    public static void main(String[] args) {
        for (int seed = 0; seed < 300; seed++) {
            String once = run(seed);
            Due.due("run " + seed + " again", run(seed), once);
        }
        Due.close("FuzzTest");
    }

    private static String run(int seed) {
        Random random = new Random(seed);
        Probe probe = new Probe();
        StringBuilder answers = new StringBuilder();
        for (int k = 0; k < 200; k++) {
            if (random.nextInt(12) == 0) {
                probe.text(text(random));
            } else if (random.nextInt(6) == 0) {
                probe.bytes(random.ints(random.nextInt(20), 0, 1 << 1 + random.nextInt(8)).toArray());
            }
            answers.append(call(probe.ring, random)).append(' ');
        }
        return answers.toString();
    }

    private static String text(Random random) {
        StringBuilder text = new StringBuilder();
        if (random.nextInt(4) > 0) {
            text.append(HEADS[random.nextInt(HEADS.length)]);
            for (int k = random.nextInt(9); k >= 0; k--) {
                text.append(LINES[random.nextInt(LINES.length)]);
            }
        }
        for (int k = random.nextInt(3) == 0 ? random.nextInt(150) : 0; k > 0; k--) {
            text.append(TOKENS[random.nextInt(TOKENS.length)]);
        }
        return text.substring(0, Math.min(text.length(), 540));
    }

    private static int argument(Random random) {
        return random.nextInt(12) == 0 ? ODD[random.nextInt(ODD.length)] : random.nextInt(5) - (random.nextInt(8) == 0 ? 1 : 0);
    }

    private static String call(TurnedRing ring, Random random) {
        int a = argument(random);
        int b = argument(random);
        int c = argument(random);
        int which = random.nextInt(42);
        try {
            return which < 21 ? earlier(ring, which, a, b, c) : later(ring, which, a, b, c);
        } catch (NoSuchElementException e) {
            Due.due("call " + which + " may throw", which == 9 || which == 10 || which == 15, true);
            return "throws";
        } catch (RuntimeException e) {
            Due.due("call " + which + " of " + a + " " + b + " " + c + " threw " + e, 1, 0);
            return "fails";
        }
    }

    private static String earlier(TurnedRing ring, int which, int a, int b, int c) {
        switch (which) {
            case 0: return "" + ring.script();
            case 1: return "" + ring.script();
            case 2: return "" + ring.feed(a, b, c, a, b);
            case 3: return "" + ring.end(a);
            case 4: return "" + ring.script();
            case 5: return "" + ring.fault();
            case 6: return "" + ring.times(a, b);
            case 7: return "" + ring.turned(a, b);
            case 8: return "" + ring.slope(a);
            case 9: return "" + ring.degree(a);
            case 10: return "" + ring.at(a, b);
            case 11: return "" + ring.makes(a, b, c);
            case 12: return "" + ring.divides(a, b, c);
            case 13: return "" + ring.common(a, b, c);
            case 14: return "" + ring.multiple(a, b, c);
            case 15: return "" + ring.result(a, b);
            case 16: return "" + ring.resultDegree(a);
            case 17: return "" + ring.keep(a, b);
            case 18: return "" + ring.undo();
            case 19: return "" + ring.value(a, b);
            default: return "" + ring.applied(a, b, c);
        }
    }

    private static String later(TurnedRing ring, int which, int a, int b, int c) {
        switch (which) {
            case 21: return "" + ring.roots(a, b);
            case 22: return "" + ring.kin(a, b);
            case 23: return "" + ring.classes();
            case 24: return "" + ring.least();
            case 25: return "" + ring.divisors(a, b, c);
            case 26: return "" + ring.factorings(a);
            case 27: return "" + ring.factor(a, b, c);
            case 28: return "" + ring.like(a, b);
            case 29: return "" + ring.norm(a);
            case 30: return "" + ring.rank();
            case 31: return "" + ring.sumRank();
            case 32: return "" + ring.weight(a, b);
            case 33: return "" + ring.points();
            case 34: return "" + ring.word(a, b);
            case 35: return "" + ring.distance(a);
            case 36: return "" + ring.mend(a);
            case 37: return "" + ring.register();
            case 38: return "" + ring.tap(a);
            case 39: return "" + ring.image(a);
            case 40: return "" + ring.restore(a);
            default: return "" + ring.count(a);
        }
    }
}
