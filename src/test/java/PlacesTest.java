/** Promises 19 to 24: values, what polynomials do to numbers, places that are kin, the least one of some places. */
final class PlacesTest {
    private static final String FOUR = "field 2 7;turn 1;slope 1;";
    private static final int[] ODD = {-1, -2, Integer.MAX_VALUE, Integer.MIN_VALUE};

    private PlacesTest() {
    }

    public static void main(String[] args) {
        values();
        roots();
        kins();
        least();
        Due.close("PlacesTest");
    }

    private static void values() {
        Probe probe = Probe.of(FOUR + "a=2*x+1;b=3;c=0;d=x^2;e=x^16+x;");
        Naive naive = new Naive(2, 7, 1, 1);
        for (int i = 0; i < 5; i++) {
            for (int a = 0; a < 4; a++) {
                Due.due("value " + i + " " + a, probe.ring.value(i, a), naive.value(probe.numbersOfName(i), a));
                for (int b = 0; b < 4; b++) {
                    Due.due("applied " + i + " " + a + " " + b, probe.ring.applied(i, a, b),
                        naive.applied(probe.numbersOfName(i), a, b));
                }
            }
        }
        Due.due("value of 2 x + 1 at 3", probe.ring.value(0, 3), 0);
        Due.due("value of 2 x + 1 at 2", probe.ring.value(0, 2), 2);
        Due.due("2 x + 1 at 2 to 3", probe.ring.applied(0, 2, 3), 0);
        for (int odd : new int[] {-1, 4, 255, Integer.MAX_VALUE, Integer.MIN_VALUE}) {
            Due.due("value at " + odd, probe.ring.value(0, odd), -1);
            Due.due("applied at " + odd, probe.ring.applied(0, odd, 1), -1);
            Due.due("applied to " + odd, probe.ring.applied(0, 1, odd), -1);
        }
        for (int odd : new int[] {-1, 5, 12, Integer.MAX_VALUE, Integer.MIN_VALUE}) {
            Due.due("value of " + odd, probe.ring.value(odd, 1), -1);
            Due.due("applied of " + odd, probe.ring.applied(odd, 1, 1), -1);
            Due.due("roots of " + odd, probe.ring.roots(odd, -1), -1);
            Due.due("root of " + odd, probe.ring.roots(odd, 0), -1);
        }
    }

    private static void roots() {
        Probe probe = Probe.of("field 3 11;turn 1;a=x^3+1;b=0;c=5;d=x;");
        int[] counts = {7, 8, 0, 1};
        for (int i = 0; i < 4; i++) {
            Due.due("roots " + i, probe.ring.roots(i, -1), counts[i]);
            Due.due("root behind " + i, probe.ring.roots(i, counts[i]), -1);
            for (int odd : new int[] {-2, 8, Integer.MAX_VALUE, Integer.MIN_VALUE}) {
                Due.due("root " + i + " " + odd, probe.ring.roots(i, odd), -1);
            }
        }
        for (int k = 0; k < 7; k++) {
            Due.due("root of x^3+1 " + k, probe.ring.roots(0, k), k + 1);
        }
        for (int k = 0; k < 8; k++) {
            Due.due("root of 0 " + k, probe.ring.roots(1, k), k);
        }
        Due.due("root of x", probe.ring.roots(3, 0), 0);
    }

    private static void kins() {
        TurnedRing turned = Probe.of("field 2 7;turn 1;").ring;
        int[][] due = {{0, 0, 1}, {1, 1, 1}, {1, 2, 2}, {1, 3, 3}, {2, 1, 3}, {2, 2, 1}, {3, 1, 2}, {0, 1, -1}, {1, 0, -1}};
        for (int[] row : due) {
            Due.due("kin " + row[0] + " " + row[1], turned.kin(row[0], row[1]), row[2]);
        }
        Due.due("classes", turned.classes(), 2);
        TurnedRing sloped = Probe.of("field 2 7;turn 1;slope 2;").ring;
        Due.due("C is kin of itself alone", sloped.kin(2, 2), 1);
        Due.due("C is no kin", sloped.kin(2, 0), -1);
        Due.due("least number for kin", sloped.kin(0, 0), 1);
        Due.due("classes with a slope", sloped.classes(), 2);
        String[] fields = {"", "field 2 7;", "field 4 19;turn 2;", "field 4 19;turn 1;slope 3;", "field 8 283;turn 4;",
            "field 8 283;", "field 8 283;turn 1;"};
        int[] classes = {2, 4, 4, 2, 16, 256, 2};
        for (int k = 0; k < fields.length; k++) {
            Probe probe = Probe.of(fields[k]);
            Due.due("classes of " + fields[k], probe.ring.classes(), classes[k]);
            Due.due("classes again of " + fields[k], probe.ring.classes(), classes[k]);
            probe.script("field 2 7;turn 1;");
            Due.due("classes behind those of " + fields[k], probe.ring.classes(), 2);
            Due.due("kin of itself in " + fields[k], Probe.of(fields[k]).ring.kin(1, 1), 1);
        }
    }

    private static void least() {
        Probe probe = Probe.of(FOUR);
        least(probe, 0, "1");
        least(probe, 1, "3 1", 3);
        least(probe, 1, "3 1", 3, 3, 3);
        least(probe, 1, "0 1", 0);
        Naive naive = new Naive(2, 7, 1, 1);
        for (int code = 0; code < 256; code++) {
            int[] places = {code & 3, code >> 2 & 3, code >> 4 & 3, code >> 6};
            int[] due = naive.least(places);
            Due.due("least " + code, probe.bytes(places).ring.least(), Naive.deg(due));
            Due.due("least result " + code, java.util.Arrays.toString(probe.numbersOfResult(0)), java.util.Arrays.toString(due));
        }
        least(probe, 3, "0 0 1 1", 0, 1, 2, 3, 0, 1, 2, 3, 0, 1, 2, 3, 0, 1, 2, 3);
        String before = probe.all();
        Due.due("17 places", probe.bytes(new int[17]).ring.least(), -2);
        Due.due("no number", probe.bytes(1, 4).ring.least(), -2);
        Due.due("no number ahead", probe.bytes(255, 1).ring.least(), -2);
        Due.due("results stay", probe.all(), before);
        Probe eight = Probe.of("field 8 283;");
        int[] all = new int[16];
        for (int k = 0; k < 16; k++) {
            all[k] = 240 + k;
        }
        Due.due("16 places without a turn", eight.bytes(all).ring.least(), 16);
        eight.script("field 8 283;a=0;");
        eight.bytes(all).ring.least();
        eight.ring.keep(0, 0);
        Due.due("its roots", eight.ring.roots(0, -1), 16);
        for (int k = 0; k < 16; k++) {
            Due.due("its root " + k, eight.ring.roots(0, k), all[k]);
        }
        for (int odd : ODD) {
            Due.due("its root " + odd, eight.ring.roots(0, odd), odd == -1 ? 16 : -1);
        }
    }

    private static void least(Probe probe, int degree, String due, int... places) {
        String about = "least of " + java.util.Arrays.toString(places);
        Due.due(about, probe.bytes(places).ring.least(), degree);
        Due.due(about + " result", probe.result(0), due);
    }
}
