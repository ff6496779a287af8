import java.util.Arrays;

/**
 * Each sentence of the document that names an edge, from the new object to the FAULTS (promises 1 to 5 and 41): what is
 * just within it, and what is just beyond it. The comment of a test is the sentence, or its part, that it holds.
 */
final class EdgesOfScriptTest {
    private static final int[] FAR = {Integer.MIN_VALUE, Integer.MIN_VALUE + 1, -541, -2, -1, 541, 1 << 16, Integer.MAX_VALUE};
    private static final String[] WHATS = {"quo", "rem", "lquo", "lrem", "gcd", "lgcd", "lcm", "llcm"};
    private static final String TWELVE = "a=1;b=1;c=1;d=1;e=1;f=1;g=1;h=1;i=1;j=1;k=1;l=1;";

    private EdgesOfScriptTest() {
    }

    public static void main(String[] args) {
        newObject();
        fullTape();
        endOfTape();
        bytesBehindTheEnd();
        emptiedTape();
        blanks();
        signs();
        lengthsOfWords();
        lengthsOfNumbers();
        runsOfBoth();
        fiveHundred();
        readWhole();
        fields();
        turnsAndSlopes();
        heads();
        twelveNames();
        namesToldAhead();
        powersOf();
        brackets();
        degrees();
        byZero();
        leastOfOneToken();
        firstAsOneReads();
        faultCall();
        scriptRefused();
        scriptTaken();
        counts();
        Due.close("EdgesOfScriptTest");
    }

    private static void lines(String script, int due) {
        Probe probe = new Probe();
        Due.due("lines of \"" + script + "\"", probe.script(script), due);
        Due.due("no fault of \"" + script + "\"", probe.ring.fault(), 0);
    }

    private static void fault(String script, int kind, int place) {
        Probe probe = new Probe();
        Due.due("fault's place of \"" + script + "\"", probe.script(script), -1 - place);
        Due.due("fault's kind of \"" + script + "\"", probe.ring.fault(), kind);
    }

    // Promises 1 to 3

    /** The field of two numbers, no NAMES; RESULTS are 0; an empty tape; and what else is told of the time ahead of calls. */
    private static void newObject() {
        TurnedRing ring = new TurnedRing();
        Due.due("new: M", ring.count(0), 1);
        Due.due("new: P", ring.count(1), 3);
        Due.due("new: no turn", ring.count(2), 0);
        Due.due("new: no slope", ring.count(3), 0);
        Due.due("new: ROUND", ring.count(4), 1);
        Due.due("new: no NAMES", ring.count(5), 0);
        Due.due("new: no POINTS", ring.count(6), 0);
        Due.due("new: nothing to be undone", ring.count(7), 0);
        Due.due("new: an empty tape", ring.count(8), 0);
        Due.due("new: 1 is a number", ring.times(1, 1), 1);
        Due.due("new: 2 is none", ring.times(2, 2), -1);
        Due.throwsNoSuch("new: degree", () -> ring.degree(0));
        Due.throwsNoSuch("new: at", () -> ring.at(0, 0));
        for (int k = 0; k < 4; k++) {
            Due.due("new: RESULT " + k + " is 0", ring.resultDegree(k), -1);
            for (int j = 0; j <= 17; j++) {
                Due.due("new: RESULT " + k + " of x^" + j, ring.result(k, j), 0);
            }
        }
        Due.due("new: fault", ring.fault(), 0);
        Due.due("new: undo", ring.undo(), -1);
        Due.due("new: tap", ring.tap(1), -1);
        Due.due("new: restore 0", ring.restore(0), false);
        Due.due("new: restore 1", ring.restore(1), false);
        Due.due("new: a FAULT of the empty text", ring.script(), 0);
    }

    /** NONE, and none come, if it would have more than 540. */
    private static void fullTape() {
        Probe probe = new Probe();
        probe.ring.feed(0x613D783B, 0x20202020, 0x20202020, 0x20202020, 0x20202020);
        for (int bytes = 40; bytes <= 540; bytes += 20) {
            Due.due("feed up to " + bytes, probe.ring.feed(-1, -1, -1, -1, -1), bytes);
        }
        for (int k = 0; k < 3; k++) {
            Due.due("feed of a full tape", probe.ring.feed(0x623D313B, 0, 0, 0, 0), -1);
            Due.due("none came", probe.ring.count(8), 540);
        }
        Due.due("end beyond the full tape", probe.ring.end(541), false);
        for (int bytes = 539; bytes > 520; bytes--) {
            Due.due("end " + bytes, probe.ring.end(bytes), true);
            Due.due("feed above 540 from " + bytes, probe.ring.feed(0, 0, 0, 0, 0), -1);
            Due.due("none came to " + bytes, probe.ring.count(8), bytes);
        }
        Due.due("end 520", probe.ring.end(520), true);
        Due.due("feed up to 540 again", probe.ring.feed(0, 0, 0, 0, 0), 540);
        Due.due("end behind the first", probe.ring.end(4), true);
        Due.due("the first bytes are as they came", probe.ring.script(), 1);
        Due.due("what they tell", probe.named(0), "0 1");
    }

    /** The tape has its first n bytes alone: true; false, if it has not so many, or n is below 0. */
    private static void endOfTape() {
        TurnedRing ring = new TurnedRing();
        Due.due("end 0 of an empty tape", ring.end(0), true);
        Due.due("end 1 of an empty tape", ring.end(1), false);
        ring.feed(0x613D303B, 0x623D313B, 0x633D783B, 0, 0);
        for (int n : FAR) {
            Due.due("end " + n, ring.end(n), false);
            Due.due("bytes stay behind end " + n, ring.count(8), 20);
        }
        Due.due("end one above", ring.end(21), false);
        Due.due("end of all", ring.end(20), true);
        Due.due("end of some", ring.end(12), true);
        Due.due("end of more than are left", ring.end(13), false);
        Due.due("bytes that are left", ring.count(8), 12);
        ring.feed(0x643D313B, 0, 0, 0, 0);
        Due.due("what comes behind stands behind them", ring.end(16), true);
        Due.due("its LINES", ring.script(), 4);
        Due.due("a is 0", ring.degree(0), -1);
        Due.due("c is x", ring.degree(2), 1);
        ring.feed(0x613D303B, 0, 0, 0, 0);
        Due.due("end 0", ring.end(0), true);
        Due.due("an empty tape", ring.count(8), 0);
        Due.due("and an empty SCRIPT", ring.script(), 0);
    }

    /** The tape has its first n bytes alone: what stood behind them, or in an older tape, is not read by any call. */
    private static void bytesBehindTheEnd() {
        Reading[] readings = {TurnedRing::script, TurnedRing::least, TurnedRing::rank, TurnedRing::sumRank,
            TurnedRing::points, ring -> ring.mend(1), ring -> ring.mend(4), TurnedRing::register};
        String[] heads = {"", "field 2 7;turn 1;", "field 8 283;turn 3;slope 7;"};
        int[][] tapes = {{}, {1}, {1, 1}, {1, 2, 3}, {2, 1, 2, 1, 0, 1}, {1, 1, 1, 0, 1, 1, 1}, {1, 0, 1, 0, 1, 0, 1, 0},
            new int[8], new int[9], new int[15], new int[16], "abcdef".chars().toArray(), "a=1;b=x".chars().toArray(),
            "a=1;b=1".chars().toArray(), "a=001".chars().toArray(), "a=1;abcdef=a+a;".chars().toArray()};
        for (String head : heads) {
            for (int[] tape : tapes) {
                for (int which = 0; which < readings.length; which++) {
                    String due = readWith(head, tape, readings[which], 0);
                    for (int junk : new int[] {1, ' ', '0', ';', 'a', 255}) {
                        String about = "reading " + which + " of " + Arrays.toString(tape) + " in " + head;
                        Due.due(about + " ahead of " + junk, readWith(head, tape, readings[which], junk), due);
                    }
                }
            }
        }
        fault("abcdef", 1, 6);
        Probe probe = new Probe();
        probe.script("abcdefg=1;");
        Due.due("a WORD as long as the tape, behind a longer one", probe.script("abcdef"), -7);
        probe.script("a=1234567;");
        Due.due("a NUMBER as long as the tape, behind a longer one", probe.script("a=001"), -6);
    }

    /** What the call answers and leaves, where the tape's bytes have such ones behind them (0: none were ever there). */
    private static String readWith(String head, int[] tape, Reading reading, int junk) {
        Probe probe = Probe.of(head);
        if (junk != 0) {
            int[] full = new int[540];
            Arrays.fill(full, junk);
            probe.bytes(full).ring.rank();
        }
        probe.bytes(1, 1, 0, 1, 1, 1, 0, 1).ring.points();
        int[] longer = Arrays.copyOf(tape, tape.length + 40);
        Arrays.fill(longer, tape.length, longer.length, junk);
        probe.bytes(longer).ring.end(tape.length);
        long answer = reading.read(probe.ring);
        return answer + " " + probe.ring.fault() + " " + probe.all() + probe.ring.tap(1) + " " + probe.ring.tap(2);
    }

    private interface Reading {
        long read(TurnedRing ring);
    }

    /** The tape (empty then, here and below, whatever is answered). */
    private static void emptiedTape() {
        Reading[] readings = {TurnedRing::script, TurnedRing::least, TurnedRing::rank, TurnedRing::sumRank,
            TurnedRing::points, ring -> ring.mend(1), ring -> ring.mend(-1), ring -> ring.mend(9), TurnedRing::register};
        int[][] tapes = {{}, {1}, {1, 1}, {2}, {1, 1, 1}, new int[16], new int[17], new int[540]};
        for (int which = 0; which < readings.length; which++) {
            for (int[] tape : tapes) {
                Probe probe = new Probe();
                probe.bytes(1, 1).ring.points();
                probe.bytes(tape);
                Due.due("bytes ahead of reading " + which, probe.ring.count(8), tape.length);
                readings[which].read(probe.ring);
                Due.due("bytes behind reading " + which + " of " + tape.length, probe.ring.count(8), 0);
                Due.due("the tape can be filled again", probe.ring.feed(0, 0, 0, 0, 0), 20);
            }
        }
        Probe probe = Probe.of("a=x;");
        probe.bytes(1, 1).ring.points();
        probe.bytes(1, 1, 1);
        TurnedRing ring = probe.ring;
        Reading[] others = {TurnedRing::fault, x -> x.times(1, 1), x -> x.degree(0), x -> x.makes(0, 0, 1),
            x -> x.divides(0, 0, 0), x -> x.common(0, 0, 0), x -> x.multiple(0, 0, 1), x -> x.keep(0, 0) ? 1 : 0,
            TurnedRing::undo, x -> x.roots(0, -1),
            TurnedRing::classes, x -> x.divisors(0, 1, 0), x -> x.factorings(0), x -> x.like(0, 0), x -> x.norm(0),
            x -> x.weight(0, 3), x -> x.word(0, 0), x -> x.distance(1), x -> x.tap(1), x -> x.image(0) ? 1 : 0,
            x -> x.restore(0) ? 1 : 0};
        for (int which = 0; which < others.length; which++) {
            others[which].read(ring);
            Due.due("the tape stays behind what does not read it, " + which, ring.count(8), 3);
        }
    }

    // TOKENS

    /** With blanks (32, 10) between them or not. */
    private static void blanks() {
        for (int sign = 0; sign < 256; sign++) {
            boolean blank = sign == 32 || sign == 10;
            String text = "a=1" + (char) sign + (char) sign + ";" + (char) sign;
            boolean longer = sign >= '0' && sign <= '9' || sign >= 'a' && sign <= 'z';
            Probe probe = new Probe();
            int answer = probe.script(text);
            if (blank) {
                Due.due("blank " + sign, answer, 1);
            } else if (!longer && "+*^;".indexOf(sign) < 0) {
                Due.due("no blank " + sign, answer, -4);
                Due.due("kind at no blank " + sign, probe.ring.fault(), 1);
            } else {
                Due.due("no blank " + sign, answer < 0, true);
            }
        }
        lines("  \n\n field \n 2\n 7 \n;\n a\n\n=\n(\n x \n+ 1\n)\n^\n2 \n*\n gcd\n(\n x \n,\n 1 \n)\n; \n", 2);
        lines("field 2 7;a=(x+1)^2*gcd(x,1);", 2);
        fault("fie ld 2 7;", 1, 4);
        fault("field 2 7;a=1 0;", 1, 14);
    }

    /** What is not as told is no TOKEN: of all bytes these alone can begin one. */
    private static void signs() {
        for (int sign = 0; sign < 256; sign++) {
            Probe probe = new Probe();
            int answer = probe.script((char) sign + "=1;");
            boolean letter = sign >= 'a' && sign <= 'z' && sign != 'x';
            boolean blank = sign == 32 || sign == 10;
            Due.due("first byte " + sign, answer, letter ? 1 : blank ? -2 : -1);
            Due.due("kind at first byte " + sign, probe.ring.fault(), letter ? 0 : 1);
            Due.due("a byte alone " + sign, new Probe().script("" + (char) sign), blank ? 0 : letter ? -2 : -1);
        }
    }

    /** WORDS: small letters, 1 to 6. */
    private static void lengthsOfWords() {
        for (int length = 1; length <= 540; length += length < 40 ? 1 : 50) {
            String word = "b".repeat(length);
            if (length <= 6) {
                lines(word + "=1;c=" + word + ";", 2);
            } else {
                fault(word + "=1;", 1, 0);
                fault("a=" + word.substring(0, Math.min(length, 530)) + ";", 1, 2);
            }
        }
        String[] same = {"abcdef", "abcdeg", "bbcdef", "abcde", "bcdef", "abddef", "aaaaaa", "aaaaab", "zzzzzz",
            "zzzzzy", "a", "aa"};
        StringBuilder text = new StringBuilder();
        for (String word : same) {
            text.append(word).append("=x^").append(text.length() % 17).append(';');
        }
        lines(text.toString(), 12);
        Due.due("words of six letters are all others", Probe.of(text.toString()).ring.count(5), 12);
    }

    /** NUMBERS: 1 to 3 digits. */
    private static void lengthsOfNumbers() {
        String field = "field 8 283;a=";
        for (String number : new String[] {"0", "00", "000", "1", "01", "001", "9", "99", "099", "255"}) {
            lines(field + number + ";", 2);
            Probe probe = Probe.of(field + number + ";");
            Due.due("number of " + number, probe.ring.at(0, 0), Integer.parseInt(number));
        }
        for (String number : new String[] {"256", "300", "512", "999"}) {
            fault(field + number + ";", 2, 14);
        }
        for (String number : new String[] {"0000", "0001", "1000", "0255", "9999", "00000", "4294967296",
            "18446744073709551617", "0".repeat(300)}) {
            fault(field + number + ";", 1, 14);
            fault("field " + number + " 3;", 1, 6);
            fault("field 1 " + number + ";", 1, 8);
            fault("turn " + number + ";", 1, 5);
            fault("slope " + number + ";", 1, 6);
            fault("a=x^" + number + ";", 1, 4);
        }
    }

    /** A WORD, NUMBER goes on as long as small letters and digits do. */
    private static void runsOfBoth() {
        for (String run : new String[] {"a1", "1a", "x1", "1x", "a1b", "1a1", "ab12", "12ab", "x0", "0x", "abcde1", "1bcdef"}) {
            fault("a=" + run + ";", 1, 2);
            fault(run + "=1;", 1, 0);
            fault("a=x^" + run + ";", 1, 4);
        }
        fault("field1 3;", 1, 0);
        fault("field 1 3a=1;", 1, 8);
        fault("turn0;", 1, 0);
        fault("a=2x;", 1, 2);
        fault("a=gcd1(x,1);", 1, 2);
        fault("a=xx;", 3, 2);
        fault("a=quox(x,1);", 3, 2);
        lines("quox=1;xx=quox;", 2);
    }

    // SCRIPTS

    /** A text of at most 500 bytes. */
    private static void fiveHundred() {
        for (int length = 498; length <= 540; length++) {
            String blank = " ".repeat(length - 4) + "a=1;";
            String early = "a=1;" + "\n".repeat(length - 4);
            if (length <= 500) {
                lines(blank, 1);
                lines(early, 1);
                lines(" ".repeat(length), 0);
            } else {
                fault(early, 1, 500);
                fault(" ".repeat(length), 1, 500);
                fault(blank, 1, 500);
            }
            fault("@" + " ".repeat(length - 1), 1, 0);
            fault(" ".repeat(length - 1) + "@", 1, Math.min(length - 1, 500));
        }
        fault(" ".repeat(499) + "@" + " ".repeat(40), 1, 499);
        fault(" ".repeat(499) + ";", 1, 499);
        fault(" ".repeat(499) + "a", 1, 500);
        fault(" ".repeat(490) + "a", 1, 491);
    }

    /** 500, if there are more and no FAULT is ahead: TOKENS that begin ahead of it are read whole. */
    private static void readWhole() {
        for (int at = 494; at <= 500; at++) {
            String ahead = " ".repeat(at);
            boolean read = at < 500;
            fault(ahead + "abcdef=1;", 1, 500);
            fault(ahead + "abcdefg=1;", 1, read ? at : 500);
            fault(ahead + "0000000=1;", 1, read ? at : 500);
            fault(ahead + "ABCDEFG=1;", 1, read ? at : 500);
            fault(TWELVE + " ".repeat(at - TWELVE.length()) + "mmmmmm=1;", read ? 4 : 1, read ? at : 500);
            fault("a=" + " ".repeat(at - 2) + "bbbbbb;", read ? 3 : 1, read ? at : 500);
            fault("a=1;" + " ".repeat(at - 4) + "slope 0;", read ? 3 : 1, read ? at : 500);
        }
        for (int at = 497; at <= 500; at++) {
            boolean read = at < 500;
            fault("a=" + " ".repeat(at - 2) + "999;  ", read ? 2 : 1, read ? at : 500);
            fault("a=x^" + " ".repeat(at - 4) + "017;  ", read ? 2 : 1, read ? at : 500);
            fault("a=(x^2)^" + " ".repeat(at - 8) + "009;  ", read ? 4 : 1, read ? 7 : 500);
            fault("xxx=x;a=x^16*" + " ".repeat(at - 13) + "xxx;  ", read ? 4 : 1, read ? 12 : 500);
        }
        String behind = "a=x^16*x";
        fault(" ".repeat(500 - behind.length()) + behind + "^0;", 4, 498);
        fault(" ".repeat(499 - behind.length()) + behind + "^0;", 1, 500);
    }

    /** The remainder of polynomials over two numbers, by long division. */
    private static boolean divides(int by, int whole) {
        int left = whole;
        while (left >= by && Integer.highestOneBit(left) >= Integer.highestOneBit(by)) {
            left ^= by << Integer.numberOfLeadingZeros(by) - Integer.numberOfLeadingZeros(left);
        }
        return left == 0;
    }

    private static boolean isModulus(int m, int p) {
        if (p >> m != 1) {
            return false;
        }
        for (int by = 2; by < 1 << m; by++) {
            if (divides(by, p)) {
                return false;
            }
        }
        return true;
    }

    /** 'field' M P (P a NUMBER of M + 1 bits that no polynomial of degree 1 to M - 1 divides; 'field' 1 3 without). */
    private static void fields() {
        Probe probe = new Probe();
        int left = 500;
        for (int m = 1; m <= 8; m++) {
            for (int p = 0; p < 1000; p += p < (4 << m) ? 1 : 17) {
                if (left < 5) {
                    probe = new Probe();
                    left = 500;
                }
                left -= 4;
                boolean due = isModulus(m, p);
                String text = "field " + m + " " + p + ";";
                Due.due(text, probe.script(text), due ? 1 : -9);
                Due.due("kind of " + text, probe.ring.fault(), due ? 0 : 2);
            }
        }
        for (int m : new int[] {0, 9, 10, 11, 16, 32, 33, 255, 256, 264, 999}) {
            fault("field " + m + " 3;", 2, 6);
            fault("field " + m, 2, 6);
        }
        for (int m = 1; m <= 8; m++) {
            Probe told = Probe.of("field " + m + " " + Probe.MODULI[m] + ";");
            Due.due("M of " + m, told.ring.count(0), m);
            Due.due("P of " + m, told.ring.count(1), Probe.MODULI[m]);
            Due.due("no turn of " + m, told.ring.count(2), 0);
            Due.due("no slope of " + m, told.ring.count(3), 0);
        }
        Probe without = Probe.of("a=1;");
        Due.due("M without", without.ring.count(0), 1);
        Due.due("P without", without.ring.count(1), 3);
        Due.due("P of x", Probe.of("field 1 2;").ring.count(1), 2);
    }

    /** 'turn' S (0 without; below M) | 'slope' C (a number of the field; 0 without). */
    private static void turnsAndSlopes() {
        for (int m = 1; m <= 8; m++) {
            String field = "field " + m + " " + Probe.MODULI[m] + ";";
            int place = field.length();
            for (int s = 0; s <= 10; s++) {
                if (s < m) {
                    lines(field + "turn " + s + ";", 2);
                    Due.due("S", Probe.of(field + "turn " + s + ";").ring.count(2), s);
                } else {
                    fault(field + "turn " + s + ";", 2, place + 5);
                }
            }
            int most = (1 << m) - 1;
            lines(field + "slope " + most + ";", 2);
            Due.due("C", Probe.of(field + "slope " + most + ";").ring.count(3), most);
            fault(field + "slope " + (most + 1) + ";", 2, place + 6);
            fault(field + "slope 999;", 2, place + 6);
            lines(field + "a=" + most + ";", 2);
            fault(field + "a=" + (most + 1) + ";", 2, place + 2);
        }
        lines("turn 0;", 1);
        fault("turn 1;", 2, 5);
        lines("slope 1;", 1);
        fault("slope 2;", 2, 6);
    }

    /** These once each, in this order, ahead of all others; told twice, or behind what they are not ahead of (at it). */
    private static void heads() {
        String[] heads = {"field 2 7;", "turn 0;", "slope 1;", "a=1;"};
        for (int code = 0; code < 256; code++) {
            StringBuilder text = new StringBuilder();
            int latest = -1;
            int place = -1;
            for (int k = 0; k < 4; k++) {
                int which = code >> 2 * k & 3;
                if (place < 0 && which < 3 && which <= latest) {
                    place = text.length();
                }
                latest = Math.max(latest, which);
                text.append(heads[which]);
            }
            if (place < 0) {
                lines(text.toString(), 4);
            } else {
                fault(text.toString(), 3, place);
            }
        }
        fault("turn 0;field", 3, 7);
        fault("a=1;slope", 3, 4);
        fault("a=slope;", 1, 2);
        fault("turn=1;", 1, 4);
    }

    /** 12 NAMES, numbered from 0 as they are told first; 4 a 13th NAME (at it). */
    private static void twelveNames() {
        StringBuilder text = new StringBuilder();
        for (int i = 0; i < 12; i++) {
            text.append((char) ('l' - i)).append("=x^").append(i).append(';');
        }
        lines(text.toString(), 12);
        Probe probe = Probe.of(text.toString());
        for (int i = 0; i < 12; i++) {
            Due.due("NAME " + i, probe.ring.degree(i), i);
        }
        Due.throwsNoSuch("NAME 12", () -> probe.ring.degree(12));
        Due.throwsNoSuch("NAME -1", () -> probe.ring.degree(-1));
        fault(text + "m=1;", 4, text.length());
        fault(text + "m", 4, text.length());
        fault(text + "a=1;m=1;", 4, text.length() + 4);
        fault(text + "x=1;", 1, text.length());
        Probe again = Probe.of(text + "l=x^16;a=l*1;f=f+f;");
        Due.due("told again: still 12", again.ring.count(5), 12);
        Due.due("the first told again", again.ring.degree(0), 16);
        Due.due("the last told again", again.ring.degree(11), 16);
        Due.due("one between told again", again.ring.degree(6), -1);
        Due.due("no other", again.ring.degree(5), 5);
    }

    /** NAME (told ahead); told again it is another one from then on; 3 a NAME that is not told (at it). */
    private static void namesToldAhead() {
        fault("a=a;", 3, 2);
        fault("a=b;b=1;", 3, 2);
        fault("a=1;b=b;", 3, 6);
        fault("a=gcd(x,aa);", 3, 8);
        lines("a=1;a=a;", 2);
        Probe probe = Probe.of("a=x;b=a;a=a*a;c=a;a=0;d=a;");
        int[] degrees = {-1, 1, 2, -1};
        for (int i = 0; i < 4; i++) {
            Due.due("told from then on " + i, probe.ring.degree(i), degrees[i]);
        }
        for (String what : WHATS) {
            fault(what + "=1;", 1, 0);
            fault("a=" + what + ";", 1, 2 + what.length());
            lines(what + "a=1;", 1);
        }
        fault("x=1;", 1, 0);
        Probe known = Probe.of("abc=1;");
        Due.due("a NAME of an older SCRIPT", known.script("b=abc;"), -3);
        Due.due("is not told", known.ring.fault(), 3);
    }

    /** POWER: ATOM [ ^ N ] (N 0 to 16). */
    private static void powersOf() {
        for (int n = 0; n <= 16; n++) {
            Due.due("x^" + n, Probe.of("a=x^" + n + ";").ring.degree(0), n);
            Due.due("1^" + n, Probe.of("a=1^" + n + ";").ring.degree(0), 0);
            Due.due("0^" + n, Probe.of("a=0^" + n + ";").ring.degree(0), n == 0 ? 0 : -1);
        }
        for (int n : new int[] {17, 18, 31, 32, 256, 272, 999}) {
            fault("a=x^" + n + ";", 2, 4);
            fault("a=1^" + n + ";", 2, 4);
            fault("a=0^" + n + ";", 2, 4);
        }
        fault("a=x^2^2;", 1, 5);
        fault("a=x^;", 1, 4);
    }

    // FAULTS

    /** Brackets (of WHAT, too) more than 6 within one another (at the (, or at WHAT). */
    private static void brackets() {
        for (int code = 0; code < 128; code++) {
            StringBuilder ahead = new StringBuilder("a=");
            StringBuilder behind = new StringBuilder();
            for (int k = 0; k < 6; k++) {
                boolean what = (code >> k & 1) == 1;
                ahead.append(what ? WHATS[4 + (code + k) % 4] + "(" : "(");
                behind.insert(0, what ? ",1)" : ")");
            }
            lines(ahead + "x" + behind + ";", 1);
            boolean what = code >= 64;
            String seventh = what ? "gcd(x,1)" : "(x)";
            fault(ahead + seventh + behind + ";", 4, ahead.length());
            fault("b=1;" + ahead + "x+" + seventh + behind + ";", 4, ahead.length() + 6);
        }
        lines("a=((((((x))))))*((((((x))))))+((((((x)+1)))));", 1);
        lines("a=((((((x)*(x)))))+(x))*(x);", 1);
        lines("a=gcd((((((x))))),(((((1))))));", 1);
        fault("a=gcd((((((x))))),((((((1)))))));", 4, 23);
        lines("a=" + "(x)+".repeat(100) + "x;", 1);
    }

    /** A degree above 16 (of a product, a power, a MULTIPLE; at the * or ^ or WHAT). */
    private static void degrees() {
        for (int one = 0; one <= 16; one++) {
            for (int other = 15 - one; other <= 18 - one; other++) {
                if (other < 0 || other > 16) {
                    continue;
                }
                String product = "a=x^" + one + "*x^" + other + ";";
                String multiple = "a=lcm(x^" + one + ",(x+1)^" + other + ");";
                if (one + other <= 16) {
                    Due.due(product, Probe.of(product).ring.degree(0), one + other);
                    Due.due(multiple, Probe.of(multiple).ring.degree(0), one + other);
                    lines(multiple.replace("lcm", "llcm"), 1);
                } else {
                    fault(product, 4, product.indexOf('*'));
                    fault(multiple, 4, 2);
                    fault(multiple.replace("lcm", "llcm"), 4, 2);
                }
            }
            for (int n = 0; n <= 16; n++) {
                String power = "b=x^" + one + ";a=(b)^" + n + ";";
                if (one * n <= 16) {
                    Due.due(power, Probe.of(power).ring.degree(1), one * n);
                } else {
                    fault(power, 4, power.lastIndexOf('^'));
                }
            }
        }
        Due.due("a part of degree 16 stands for both", Probe.of("a=lcm(x^16,x^16);").ring.degree(0), 16);
        Due.due("0 has no degree above 16", Probe.of("a=x^16*0*x^16*x^16;").ring.degree(0), -1);
        Due.due("a MULTIPLE of 0 is 0", Probe.of("a=lcm(x^16,0)+llcm(0,x^16);").ring.degree(0), -1);
        fault("a=x^16*x*0;", 4, 6);
        fault("a=x^8*x^8*x;", 4, 9);
        fault("a=x*x^16;", 4, 3);
    }

    /** 5 DIVIDED by 0 (at WHAT). */
    private static void byZero() {
        for (int k = 0; k < 8; k++) {
            for (String dividend : new String[] {"x", "0", "1", "x^16"}) {
                String text = "a=x+" + WHATS[k] + "(" + dividend + ",x+x);";
                if (k < 4) {
                    fault(text, 5, 4);
                } else {
                    lines(text, 1);
                }
            }
            lines("a=" + WHATS[k] + "(0,1);", 1);
        }
        fault("a=quo(x,rem(1,0));", 5, 8);
        fault("a=quo(x,rem(1,1));", 5, 2);
    }

    /** Of one TOKEN the least. */
    private static void leastOfOneToken() {
        fault("field 2 7;a=field;", 1, 12);
        fault("a=1;a=turn;", 1, 6);
        fault(TWELVE + "gcd=1;", 1, TWELVE.length());
        fault(TWELVE + "turn 0;", 3, TWELVE.length());
        fault("a 9=1;", 1, 2);
        fault("a=x 9;", 1, 4);
        fault("a=x^b;", 1, 4);
        fault("field b 3;", 1, 6);
        fault("a=gcd(x b);", 1, 8);
        fault("turn 0;slope field", 1, 13);
    }

    /** The first as one reads along; what is worked out is so as soon as its last TOKEN is read. */
    private static void firstAsOneReads() {
        String[] products = {"a=x^16*x", "a=x^16*x^1", "a=x^16*(x)", "a=x^16*gcd(x,x)", "a=x^16*(x)^1"};
        for (String product : products) {
            for (String behind : new String[] {";", "", "@", " b", ")", "+b", "*quo(1,0)", "+x^17", ";@"}) {
                fault(product + behind, 4, 6);
            }
        }
        fault("a=x^16*x^", 1, 9);
        fault("a=x^16*x^@", 1, 9);
        fault("a=x^16*x^17", 2, 9);
        fault("a=x^16*(x^2)^9", 4, 12);
        fault("a=x^16*(x", 1, 9);
        fault("a=x^16*b", 3, 7);
        fault("a=x^16*quo(x,0)", 5, 7);
        for (String behind : new String[] {";", "", "@", " b", "*b", "^17", "^"}) {
            fault("a=quo(x,0)" + behind, 5, 2);
            fault("a=lcm(x^16,x+1)" + behind, 4, 2);
        }
        fault("a=quo(x,0", 1, 9);
        fault("a=quo(x,0;", 1, 9);
        fault("a=lcm(x^16,x+1", 1, 14);
        for (String behind : new String[] {";", "", "@", " b", "*b", "^17", "^"}) {
            fault("a=(x^2)^9" + behind, 4, 7);
        }
        fault("a=(x^2)^", 1, 8);
        fault("a=(x^2)^99", 2, 8);
        fault("a=@;b", 1, 2);
        fault("a=1;b=@", 1, 6);
        fault("a=1;a", 1, 5);
    }

    /** The kind of the FAULT of the latest script(); 0 without one and ahead of any. */
    private static void faultCall() {
        Probe probe = new Probe();
        Due.due("ahead of any", probe.ring.fault(), 0);
        String[] texts = {"@", "a=2;", "a=b;", "a=x^16*x;", "a=quo(1,0);", ""};
        for (int first = 0; first < 6; first++) {
            for (int k = 0; k < 6; k++) {
                probe.script(texts[first]);
                probe.script(texts[k]);
                Due.due("of the latest " + k, probe.ring.fault(), (k + 1) % 6);
                Due.due("and again " + k, probe.ring.fault(), (k + 1) % 6);
            }
        }
        probe.script("@");
        probe.ring.image(0);
        probe.bytes(1).ring.rank();
        probe.bytes(9).ring.points();
        probe.ring.restore(0);
        probe.ring.feed(0, 0, 0, 0, 0);
        Due.due("other calls leave it", probe.ring.fault(), 1);
    }

    /** -1 less the place of a FAULT: all else stays. */
    private static void scriptRefused() {
        Probe probe = Probe.of("field 3 11;turn 1;slope 5;a=3*x+1;b=x^2+7;");
        probe.bytes(1, 2, 4).ring.points();
        probe.ring.common(0, 1, 0);
        probe.ring.divides(1, 0, 1);
        probe.ring.keep(0, 1);
        probe.ring.keep(1, 3);
        probe.bytes(1, 2, 3, 4, 5).ring.register();
        probe.ring.image(1);
        String before = probe.all() + probe.ring.tap(1) + probe.ring.tap(2);
        String[] texts = {"@", "field 2 7;turn 1;slope 3;a=x;b=1;c=2;d=@", "field 8 283;slope 256;", "a=x;a=x^2;b=c;",
            TWELVE + "m=0;", "a=quo(x,0);", "field 2 7;a=4;", "a=1;" + " ".repeat(500)};
        int[] places = {0, 39, 18, 12, 48, 2, 12, 500};
        for (int k = 0; k < texts.length; k++) {
            Due.due("place of " + texts[k], probe.script(texts[k]), -1 - places[k]);
            Due.due("all else stays behind " + texts[k], probe.all() + probe.ring.tap(1) + probe.ring.tap(2), before);
            Due.due("numbers stay behind " + texts[k], probe.ring.times(4, 2), 3);
            Due.due("slopes stay behind " + texts[k], probe.ring.slope(2), new Naive(3, 11, 1, 5).d(2));
        }
        Due.due("what can be undone stays", probe.ring.undo(), 1);
        probe.ring.restore(1);
        Due.due("images stay", probe.all() + probe.ring.tap(1) + probe.ring.tap(2), before);
    }

    /** A new SCRIPT: NAMES of it alone, no POINTS, nothing to be undone; RESULTS stay. */
    private static void scriptTaken() {
        Probe probe = Probe.of("field 3 11;turn 1;slope 5;a=3*x+1;b=x^2+6;");
        probe.bytes(1, 2, 4).ring.points();
        probe.ring.common(0, 1, 0);
        probe.ring.divides(1, 0, 1);
        String results = probe.results();
        Due.due("none of them is 0", ("/" + results + "/").contains("//"), false);
        probe.ring.keep(0, 1);
        for (String text : new String[] {"", "c=1;", "field 2 7;", TWELVE}) {
            Due.due("LINES of " + text, probe.script(text), text.length() - text.replace(";", "").length());
            Due.due("its NAMES alone", probe.ring.count(5), text.length() - text.replace("=", "").length());
            Due.due("no POINTS", probe.ring.count(6), 0);
            Due.due("nothing to be undone", probe.ring.count(7), 0);
            Due.due("undo", probe.ring.undo(), -1);
            Due.due("no turn", probe.ring.count(2), 0);
            Due.due("no slope", probe.ring.count(3), 0);
            Due.due("RESULTS stay", probe.results(), results);
            probe.bytes(1, 1).ring.points();
            probe.ring.image(0);
            probe.ring.restore(0);
            Due.due("RESULTS stay by a restore", probe.results(), results);
        }
    }

    /** 0 M, 1 P, .. 8 bytes of the tape. NONE for another what. */
    private static void counts() {
        Probe probe = Probe.of("field 8 285;turn 6;slope 255;a=x;b=1;c=0;");
        probe.bytes(1, 2, 3, 4, 5, 6, 7, 8).ring.points();
        for (int k = 0; k < 20; k++) {
            probe.ring.keep(k % 3, 0);
        }
        probe.bytes(new int[540]);
        int[] due = {8, 285, 6, 255, 4, 3, 8, 16, 540};
        for (int what = 0; what < 9; what++) {
            Due.due("count " + what, probe.ring.count(what), due[what]);
        }
        for (int what : new int[] {-1, -2, 9, 10, 256, Integer.MAX_VALUE, Integer.MIN_VALUE}) {
            Due.due("count " + what, probe.ring.count(what), -1);
        }
    }
}
