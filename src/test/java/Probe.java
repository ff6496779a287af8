import java.util.StringJoiner;

/** A new object, fed with texts and rows of bytes. */
final class Probe {
    /** For each M the least P. */
    static final int[] MODULI = {0, 3, 7, 11, 19, 37, 67, 131, 283};

    final TurnedRing ring = new TurnedRing();

    static Probe of(String script) {
        Probe probe = new Probe();
        int lines = probe.script(script);
        if (lines < 0) {
            Due.due("script " + script, lines, 0);
        }
        return probe;
    }

    static Probe field(int m, int s, int c, String lines) {
        return of("field " + m + " " + MODULI[m] + ";turn " + s + ";slope " + c + ";" + lines);
    }

    Probe bytes(int... row) {
        ring.end(0);
        for (int from = 0; from < row.length; from += 20) {
            int[] words = new int[5];
            for (int k = 0; k < 20; k++) {
                int sign = from + k < row.length ? row[from + k] : 0;
                words[k / 4] |= (sign & 255) << (24 - 8 * (k % 4));
            }
            ring.feed(words[0], words[1], words[2], words[3], words[4]);
        }
        ring.end(row.length);
        return this;
    }

    Probe text(String text) {
        return bytes(text.chars().toArray());
    }

    int script(String text) {
        text(text);
        return ring.script();
    }

    /** The numbers of a NAME, the lowest first, as "1 0 2"; "" for 0. */
    String named(int i) {
        StringJoiner joined = new StringJoiner(" ");
        for (int j = 0; j <= ring.degree(i); j++) {
            joined.add(Integer.toString(ring.at(i, j)));
        }
        return joined.toString();
    }

    String result(int k) {
        StringJoiner joined = new StringJoiner(" ");
        for (int j = 0; j <= ring.resultDegree(k); j++) {
            joined.add(Integer.toString(ring.result(k, j)));
        }
        return joined.toString();
    }

    /** All four RESULTS. */
    String results() {
        return result(0) + "/" + result(1) + "/" + result(2) + "/" + result(3);
    }

    int[] numbersOfName(int i) {
        int[] row = new int[ring.degree(i) + 1];
        for (int j = 0; j < row.length; j++) {
            row[j] = ring.at(i, j);
        }
        return row;
    }

    int[] numbersOfResult(int k) {
        int[] row = new int[ring.resultDegree(k) + 1];
        for (int j = 0; j < row.length; j++) {
            row[j] = ring.result(k, j);
        }
        return row;
    }

    /** All that a script, an undo or a restore could change. */
    String all() {
        StringBuilder told = new StringBuilder();
        for (int what = 0; what < 9; what++) {
            told.append(ring.count(what)).append(' ');
        }
        for (int i = 0; i < ring.count(5); i++) {
            told.append('[').append(named(i)).append(']');
        }
        for (int k = 0; k < 4; k++) {
            told.append('{').append(result(k)).append('}');
        }
        for (int p = 0; ring.count(5) > 0 && p < ring.count(6); p++) {
            told.append(ring.word(0, p)).append(',');
        }
        return told.toString();
    }
}
