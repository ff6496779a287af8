/** Promises 1, 2, 3, 41, and that what reads the tape empties it. */
final class TapeTest {
    private TapeTest() {
    }

    public static void main(String[] args) {
        aNewObject();
        fed();
        ended();
        emptied();
        counted();
        Due.close("TapeTest");
    }

    private static void aNewObject() {
        TurnedRing ring = new TurnedRing();
        int[] counts = {1, 3, 0, 0, 1, 0, 0, 0, 0};
        for (int what = 0; what < counts.length; what++) {
            Due.due("new count " + what, ring.count(what), counts[what]);
        }
        for (int k = 0; k < 4; k++) {
            Due.due("new resultDegree " + k, ring.resultDegree(k), -1);
            Due.due("new result " + k, ring.result(k, 0), 0);
        }
        Due.due("new fault", ring.fault(), 0);
        Due.due("new undo", ring.undo(), -1);
        Due.due("new tap", ring.tap(1), -1);
        Due.due("new times", ring.times(1, 1), 1);
        Due.due("new times of 2", ring.times(2, 1), -1);
        Due.due("new restore 0", ring.restore(0), false);
        Due.due("new restore 1", ring.restore(1), false);
        Due.due("new script", ring.script(), 0);
        Due.throwsNoSuch("new degree", () -> ring.degree(0));
        Due.due("NONE", TurnedRing.NONE, -1);
    }

    private static void fed() {
        TurnedRing ring = new TurnedRing();
        for (int bytes = 20; bytes <= 540; bytes += 20) {
            Due.due("feed to " + bytes, ring.feed(0, 0, 0, 0, 0), bytes);
        }
        Due.due("feed above 540", ring.feed(0, 0, 0, 0, 0), -1);
        Due.due("bytes left as they are", ring.count(8), 540);
        Due.due("end 521", ring.end(521), true);
        Due.due("feed to 541", ring.feed(0, 0, 0, 0, 0), -1);
        Due.due("bytes 521", ring.count(8), 521);
        ring.end(520);
        Due.due("feed to 540 again", ring.feed(0, 0, 0, 0, 0), 540);
        Probe probe = Probe.of("field 8 283;");
        probe.ring.feed(0x01020408, 0x10204080, 0xFFFFFFFF, 0, 0);
        probe.ring.end(8);
        Due.due("rank of single bits", probe.ring.rank(), 8);
        probe.ring.feed(-1, 0x80000000, 0x00800000, 0x00008000, 0x00000080);
        probe.ring.end(16);
        Due.due("rank of two", probe.ring.rank(), 2);
        byHighestFirst(probe);
    }

    private static void byHighestFirst(Probe probe) {
        int[] fed = {0xA1B2C3D4, 0x15263748, 0x91827364, 0x0F1E2D3C, 0xFEDCBA98};
        int[] due = new int[20];
        for (int k = 0; k < 20; k++) {
            due[k] = fed[k / 4] >>> (24 - 8 * (k % 4)) & 255;
        }
        for (int n = 1; n <= 8; n++) {
            probe.ring.feed(fed[0], fed[1], fed[2], fed[3], fed[4]);
            probe.ring.end(n);
            probe.ring.points();
            probe.script("field 8 283;a=1;");
            probe.ring.feed(fed[0], fed[1], fed[2], fed[3], fed[4]);
            probe.ring.end(n);
            probe.ring.points();
            Due.due("byte " + n, probe.ring.word(0, n - 1), due[n - 1]);
        }
        probe.ring.feed(0, 0, 0, 0, 0x20613D31);
        Due.due("a blank is no NUMBER of bytes", probe.ring.script(), -1);
        probe.bytes(32, 10, 'a', '=', '1', ';');
        Due.due("behind blanks", probe.ring.script(), 1);
    }

    private static void ended() {
        TurnedRing ring = new TurnedRing();
        Due.due("end 0 of none", ring.end(0), true);
        Due.due("end 1 of none", ring.end(1), false);
        Due.due("end -1", ring.end(-1), false);
        Due.due("end least", ring.end(Integer.MIN_VALUE), false);
        ring.feed(0x613D313B, 0x623D783B, 0, 0, 0);
        Due.due("end 21", ring.end(21), false);
        Due.due("end greatest", ring.end(Integer.MAX_VALUE), false);
        Due.due("end -1 of some", ring.end(-1), false);
        Due.due("all bytes yet", ring.count(8), 20);
        Due.due("end 20", ring.end(20), true);
        Due.due("end 8", ring.end(8), true);
        Due.due("end 9 behind", ring.end(9), false);
        Due.due("bytes", ring.count(8), 8);
        ring.feed(0x633D303B, 0, 0, 0, 0);
        ring.end(12);
        Due.due("the first ones alone", ring.script(), 3);
        Due.due("a", ring.degree(0), 0);
        Due.due("b", ring.degree(1), 1);
        Due.due("c", ring.degree(2), -1);
    }

    private interface Reading {
        int read(TurnedRing ring);
    }

    private static void emptied() {
        Reading[] readings = {TurnedRing::script, TurnedRing::least, TurnedRing::rank, TurnedRing::sumRank,
            TurnedRing::points, ring -> ring.mend(1), ring -> ring.mend(0), TurnedRing::register};
        int[][] tapes = {{}, {1}, {1, 1, 1}, {9, 9}, {'a', '=', '1', ';'}, {1, 0, 1, 1}, new int[30]};
        for (int k = 0; k < readings.length; k++) {
            for (int[] tape : tapes) {
                Probe probe = new Probe();
                probe.bytes(1, 0, 1).ring.points();
                probe.bytes(tape);
                Due.due("tape of reading " + k, probe.ring.count(8), tape.length);
                readings[k].read(probe.ring);
                Due.due("tape behind reading " + k, probe.ring.count(8), 0);
            }
        }
    }

    private static void counted() {
        Probe probe = Probe.of("field 6 67;turn 4;slope 50;a=x;b=x;a=1;");
        probe.bytes(1, 2, 3).ring.points();
        probe.ring.keep(0, 0);
        probe.ring.keep(1, 0);
        probe.bytes(7, 7, 7, 7, 7);
        int[] counts = {6, 67, 4, 50, 3, 2, 3, 2, 5};
        for (int what = 0; what < counts.length; what++) {
            Due.due("count " + what, probe.ring.count(what), counts[what]);
        }
        Due.due("count 9", probe.ring.count(9), -1);
        Due.due("count -1", probe.ring.count(-1), -1);
        Due.due("count least", probe.ring.count(Integer.MIN_VALUE), -1);
        int[][] rounds = {{4, 19, 0, 1}, {4, 19, 2, 2}, {4, 19, 3, 4}, {6, 67, 3, 2}, {6, 67, 2, 3}, {6, 67, 5, 6}, {8, 283, 6, 4}};
        for (int[] told : rounds) {
            Probe other = Probe.of("field " + told[0] + " " + told[1] + ";turn " + told[2] + ";");
            Due.due("round of " + told[0] + " by " + told[2], other.ring.count(4), told[3]);
        }
    }
}
