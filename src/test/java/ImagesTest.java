/** Promises 39, 40: images. */
final class ImagesTest {
    private static final String FOUR = "field 2 7;turn 1;slope 1;";

    private ImagesTest() {
    }

    public static void main(String[] args) {
        noSuchPlaces();
        keptAndBrought();
        whatStays();
        twoPlaces();
        undoneInImages();
        Due.close("ImagesTest");
    }

    private static void noSuchPlaces() {
        TurnedRing ring = new TurnedRing();
        for (int k : new int[] {-1, 2, 3, Integer.MAX_VALUE, Integer.MIN_VALUE}) {
            Due.due("image " + k, ring.image(k), false);
            Due.due("restore " + k, ring.restore(k), false);
        }
        Due.due("nothing in 0", ring.restore(0), false);
        Due.due("nothing in 1", ring.restore(1), false);
        Due.due("image 1", ring.image(1), true);
        Due.due("nothing in 0 yet", ring.restore(0), false);
        Due.due("restore 1", ring.restore(1), true);
    }

    private static String state(Probe probe) {
        StringBuilder told = new StringBuilder();
        for (int what = 0; what < 8; what++) {
            told.append(probe.ring.count(what)).append(' ');
        }
        for (int i = 0; i < probe.ring.count(5); i++) {
            told.append('[').append(probe.named(i)).append(']');
            for (int p = 0; p < probe.ring.count(6); p++) {
                told.append(probe.ring.word(i, p)).append(',');
            }
        }
        for (int a = 0; a < 8; a++) {
            told.append(probe.ring.times(a, 2)).append(probe.ring.turned(a, 1)).append(probe.ring.slope(a));
        }
        return told.toString();
    }

    private static void keptAndBrought() {
        Probe probe = Probe.of(FOUR + "a=x+2;b=a*a;");
        probe.bytes(1, 2, 3).ring.points();
        probe.ring.makes(0, 1, 1);
        probe.ring.keep(0, 0);
        String before = state(probe);
        Due.due("image 0", probe.ring.image(0), true);
        Due.due("an image changes nothing", state(probe), before);
        probe.script("field 3 11;turn 2;slope 5;c=7*x;d=1;e=x^16;");
        probe.bytes(4, 5).ring.points();
        probe.ring.keep(1, 3);
        Due.due("another", state(probe).equals(before), false);
        Due.due("restore 0", probe.ring.restore(0), true);
        Due.due("as kept", state(probe), before);
        Due.due("undo of the image", probe.ring.undo(), 0);
        Due.due("undone", probe.named(0), "2 1");
        probe.bytes(0).ring.points();
        Due.due("restore again", probe.ring.restore(0), true);
        Due.due("as kept again", state(probe), before);
        Due.due("image over it", probe.ring.undo() == 0 && probe.ring.image(0), true);
        probe.script("");
        probe.ring.restore(0);
        Due.due("the later image", probe.named(0), "2 1");
        Due.due("nothing to undo in it", probe.ring.undo(), -1);
        Due.due("work goes on in its field", probe.ring.value(1, 1), new Naive(2, 7, 1, 1).value(probe.numbersOfName(1), 1));
    }

    private static void whatStays() {
        Probe probe = Probe.of(FOUR + "a=3*x+2;b=x;");
        probe.ring.image(0);
        probe.script("field 3 11;a=x^5;b=x^2+7;");
        probe.ring.divides(0, 1, 0);
        probe.ring.common(0, 1, 0);
        probe.bytes(1, 2, 3, 4).ring.register();
        int tap = probe.ring.tap(1);
        probe.script("a=@");
        String results = probe.result(0) + "/" + probe.result(1) + "/" + probe.result(2) + "/" + probe.result(3);
        probe.bytes(1, 2, 3);
        Due.due("restore", probe.ring.restore(0), true);
        Due.due("tape stays", probe.ring.count(8), 3);
        Due.due("tap stays", probe.ring.tap(1), tap);
        Due.due("fault stays", probe.ring.fault(), 1);
        Due.due("results stay", probe.result(0) + "/" + probe.result(1) + "/" + probe.result(2) + "/" + probe.result(3), results);
        Due.due("numbers of the tape", probe.ring.rank(), 2);
        Due.due("image with a tape", probe.bytes(1, 1).ring.image(1), true);
        Due.due("tape stays behind an image", probe.ring.count(8), 2);
    }

    private static void twoPlaces() {
        Probe probe = Probe.of("a=x;");
        probe.ring.image(0);
        probe.script("field 8 283;turn 3;a=200;b=x;");
        probe.ring.image(1);
        String one = state(probe);
        probe.ring.restore(0);
        Due.due("of the first", probe.named(0), "0 1");
        Due.due("field of two", probe.ring.count(0), 1);
        probe.ring.restore(1);
        Due.due("of the second", state(probe), one);
        probe.ring.restore(0);
        probe.ring.image(1);
        probe.ring.restore(1);
        Due.due("the first in both", probe.ring.count(5), 1);
    }

    private static void undoneInImages() {
        Probe probe = Probe.of(FOUR + "a=x;b=1;");
        for (int k = 0; k < 16; k++) {
            probe.ring.makes(0, 1, 0);
            probe.ring.keep(0, 0);
        }
        probe.ring.image(0);
        for (int k = 15; k >= 0; k--) {
            Due.due("undo " + k, probe.ring.undo(), k);
        }
        probe.ring.restore(0);
        Due.due("all can be undone again", probe.ring.count(7), 16);
        for (int k = 15; k >= 0; k--) {
            Due.due("undo again " + k, probe.ring.undo(), k);
            Due.due("told again " + k, probe.named(0), k % 2 == 0 ? "0 1" : "1 1");
        }
        Due.due("no more", probe.ring.undo(), -1);
    }
}
