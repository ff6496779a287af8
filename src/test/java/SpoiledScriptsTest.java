import java.util.List;
import java.util.Random;

/** Promises 4, 5: texts at random, whole and spoiled, short and about 500 bytes long, against NaiveReader. */
final class SpoiledScriptsTest {
    private static final int[][] FIELDS = {{1, 3, 0, 0}, {1, 2, 0, 1}, {2, 7, 1, 3}, {3, 11, 1, 5}, {3, 13, 0, 2},
        {4, 25, 2, 9}, {4, 19, 3, 1}};
    private static final String[] PIECES = {";", ";", "=", "+", "*", "^", "(", ")", ",", " ", "\n", "x", "x", "0", "1", "2", "16",
        "17", "255", "1000", "a", "na", "nb", "nc", "field", "turn", "slope", "quo(", "rem(", "lquo(", "lrem(", "gcd(", "lgcd(",
        "lcm(", "llcm(", "quo", "abcdefg", "abcdef", "?", "A", "\t", "x^9*", "x^16", "x^16*x", "((((", "))))", "na=x;", "a=1;",
        "b=1;", "c=1;", "d=1;", "e=1;", "f=1;", "g=1;", "h=1;", "i=1;", "j=1;", "k=1;", "l=1;", "m=1;"};

    private SpoiledScriptsTest() {
    }

    public static void main(String[] args) {
        Random random = new Random(11);
        for (int k = 0; k < 3000; k++) {
            StringBuilder text = new StringBuilder(whole(random, FIELDS[k % FIELDS.length]));
            due(text.toString());
            for (int times = random.nextInt(4); times >= 0; times--) {
                spoil(text, random);
                due(text.toString());
            }
            due(aboutFiveHundred(text.toString(), random));
        }
        for (int k = 0; k < 3000; k++) {
            due(pieces(random));
        }
        Due.close("SpoiledScriptsTest");
    }

    private static String whole(Random random, int[] told) {
        RandomScript script = new RandomScript(new Naive(told[0], told[1], told[2], told[3]), random);
        script.write(1 + random.nextInt(5));
        return script.text();
    }

    private static void spoil(StringBuilder text, Random random) {
        int at = random.nextInt(text.length() + 1);
        int to = Math.min(text.length(), at + random.nextInt(3));
        boolean putting = random.nextInt(3) > 0;
        text.replace(at, to, putting ? PIECES[random.nextInt(PIECES.length)] : "");
        if (random.nextInt(12) == 0) {
            text.setLength(random.nextInt(text.length() + 1));
        }
    }

    /** Blanks put between, so that the text ends or goes on about byte 500. */
    private static String aboutFiveHundred(String text, Random random) {
        int at = random.nextInt(text.length() + 1);
        int blanks = Math.max(0, 500 - at - random.nextInt(12));
        String longer = text.substring(0, at) + " ".repeat(blanks) + text.substring(at);
        return longer.substring(0, Math.min(longer.length(), 540));
    }

    private static String pieces(Random random) {
        StringBuilder text = new StringBuilder();
        if (random.nextBoolean()) {
            text.append("field 2 7;turn 1;na=x+2;nb=na*x+1;");
        }
        for (int k = random.nextInt(14); k > 0; k--) {
            text.append(PIECES[random.nextInt(PIECES.length)]);
        }
        return text.toString();
    }

    private static void due(String whole) {
        String text = whole.substring(0, Math.min(whole.length(), 540));
        NaiveReader reader = new NaiveReader(text);
        Probe probe = new Probe();
        Due.due("script of \"" + text + "\"", probe.script(text), reader.answer());
        Due.due("fault of \"" + text + "\"", probe.ring.fault(), reader.fault());
        List<int[]> named = reader.polynomials();
        Due.due("names of \"" + text + "\"", probe.ring.count(5), named.size());
        for (int i = 0; i < named.size(); i++) {
            String due = java.util.Arrays.toString(named.get(i));
            Due.due("name " + i + " of \"" + text + "\"", java.util.Arrays.toString(probe.numbersOfName(i)), due);
        }
    }
}
