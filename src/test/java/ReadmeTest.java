/** What README.md shows of the class's use is so. */
final class ReadmeTest {
    private ReadmeTest() {
    }

    public static void main(String[] args) {
        TurnedRing ring = new TurnedRing();
        Due.due("the first twenty bytes", ring.feed(0x6669656C, 0x64203220, 0x373B7475, 0x726E2031, 0x3B663D78), 20);
        Due.due("the others", ring.feed(0x5E322B31, 0x3B000000, 0, 0, 0), 40);
        Due.due("end", ring.end(25), true);
        Due.due("script", ring.script(), 3);
        Due.due("degree", ring.degree(0), 2);
        Due.due("roots", ring.roots(0, TurnedRing.NONE), 3);
        Due.due("factorings", ring.factorings(0), 3);
        Due.due("a factor", ring.factor(0, 0, 1), 5);
        rows(ring);
        results(ring);
        faults(ring);
        Due.close("ReadmeTest");
    }

    private static void rows(TurnedRing ring) {
        Due.due("three numbers", ring.feed(0x01020300, 0, 0, 0, 0), 20);
        Due.due("their end", ring.end(3), true);
        Due.due("least", ring.least(), 2);
        Due.due("the tape is empty", ring.count(8), 0);
    }

    private static void results(TurnedRing ring) {
        Due.due("the number of x^2", ring.result(0, 2), 1);
        Due.due("the number of x^0", ring.result(0, 0), 1);
        Due.due("keep", ring.keep(0, 0), true);
        Due.due("undo", ring.undo(), 0);
    }

    private static void faults(TurnedRing ring) {
        Due.due("a text with a FAULT", ring.feed(0x663D793B, 0, 0, 0, 0), 20);
        Due.due("its end", ring.end(4), true);
        Due.due("its place", ring.script(), -3);
        Due.due("its kind", ring.fault(), 3);
        Due.due("all else stays", ring.degree(0), 2);
    }
}
