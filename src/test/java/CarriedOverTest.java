import java.util.Random;

/** What earlier calls worked with is not carried over: an object that was used before answers as a new one does. */
final class CarriedOverTest {
    private static final int[][] FIELDS = {{1, 3, 0, 0}, {1, 3, 0, 0}, {2, 7, 0, 1}, {2, 7, 1, 2}, {3, 11, 1, 4},
        {4, 19, 2, 7}, {8, 283, 4, 99}};
    private static final int MOST_CALLS = 512;
    /** No comparison makes more calls than these. */
    private static final int MOST_OF_ONE = 120;

    private final Random random = new Random(512);
    private Probe used = new Probe();
    private int calls = 0;

    private CarriedOverTest() {
    }

    public static void main(String[] args) {
        CarriedOverTest test = new CarriedOverTest();
        likeBehindALongerOne();
        for (int k = 0; k < 4000; k++) {
            test.compare();
        }
        Due.close("CarriedOverTest");
    }

    /** The sum behind the last one would be 0 by what the longer one left. */
    private static void likeBehindALongerOne() {
        Probe probe = Probe.of("a=x^2;b=x^2+x+1;c=x+1;d=x;");
        Due.due("unlike ones of degree 2", probe.ring.like(0, 1), 0);
        Due.due("unlike ones of degree 1", probe.ring.like(2, 3), 0);
    }

    private void compare() {
        int[] told = FIELDS[random.nextInt(FIELDS.length)];
        String field = "field " + told[0] + " " + told[1] + ";turn " + told[2] + ";slope " + told[3] + ";";
        StringBuilder text = new StringBuilder(field);
        int degree = 1 + random.nextInt(4);
        for (int i = 0; i < 3; i++) {
            text.append((char) ('a' + i)).append("=").append(polynomial(told[0], degree)).append(';');
        }
        int[] points = row(1 + random.nextInt(8), told[0]);
        int[] other = row(1 + random.nextInt(16), told[0]);
        int[] word = row(points.length, told[0]);
        int dimension = 1 + random.nextInt(4);
        int which = random.nextInt(1 << 5);
        if (calls + MOST_OF_ONE > MOST_CALLS) {
            used = new Probe();
            calls = 0;
        }
        String about = text + " " + which + " ";
        Due.due(about, answers(used, text.toString(), points, other, word, dimension, which),
            answers(new Probe(), text.toString(), points, other, word, dimension, which));
        calls += MOST_OF_ONE;
    }

    private String polynomial(int m, int degree) {
        StringBuilder text = new StringBuilder("x^" + degree);
        for (int j = 0; j < degree; j++) {
            text.append('+').append(random.nextInt(1 << m)).append("*x^").append(j);
        }
        return text.toString();
    }

    private int[] row(int length, int m) {
        return random.ints(length, 0, 1 << m).toArray();
    }

    /** Some of the calls, so that each comes behind each. */
    private static String answers(Probe probe, String text, int[] points, int[] other, int[] word, int dimension, int which) {
        StringBuilder all = new StringBuilder();
        TurnedRing ring = probe.ring;
        all.append(probe.script(text)).append(' ').append(probe.bytes(points).ring.points());
        if ((which & 1) == 1) {
            all.append(" L").append(ring.like(0, 1)).append(ring.like(1, 2));
        }
        if ((which & 2) == 2) {
            all.append(" D").append(ring.distance(dimension)).append(' ').append(probe.bytes(word).ring.mend(dimension));
        }
        if ((which & 4) == 4) {
            all.append(" W").append(ring.weight(0, 4 + dimension)).append(' ').append(ring.weight(1, 8));
            all.append(" N").append(ring.norm(0)).append(ring.norm(2) == -2 ? "" : probe.result(0));
        }
        if ((which & 8) == 8) {
            all.append(" F").append(ring.factorings(0)).append(' ').append(ring.factor(0, 0, 0));
            all.append(' ').append(ring.factor(1, 1, 1));
            all.append(" V").append(ring.divisors(2, 1, -1)).append(' ').append(ring.divisors(0, 2, 0));
            all.append(" C").append(ring.classes());
        }
        if ((which & 16) == 16) {
            all.append(" R").append(probe.bytes(other).ring.register());
            all.append(' ').append(ring.tap(1)).append(' ').append(ring.tap(2));
            all.append(" G").append(ring.common(0, 1, 0)).append(' ').append(probe.result(0));
            all.append('/').append(probe.result(2)).append('/').append(probe.result(3));
            all.append(" M").append(ring.multiple(1, 2, 1)).append(' ').append(probe.result(0));
        }
        return all.toString();
    }
}
