import java.util.Random;

/** Promises 4, 5: what a SCRIPT tells, and its FAULTS; the place of a FAULT is marked by | ahead of it. */
final class ScriptTest {
    private static final String TWELVE = "a=1;b=1;c=1;d=1;e=1;f=1;g=1;h=1;i=1;j=1;k=1;l=1;";
    private static final String FOUR = "field 2 7;turn 1;slope 1;";

    private ScriptTest() {
    }

    public static void main(String[] args) {
        told();
        worked();
        noTokens();
        cannotCome();
        noSuchNumbers();
        noSuchNames();
        tooMuch();
        byZero();
        ofFiveHundred();
        staysOnFault();
        newOnes();
        randomOnes();
        Due.close("ScriptTest");
    }

    private static void lines(int due, String script) {
        Probe probe = new Probe();
        Due.due("lines of " + script, probe.script(script), due);
        Due.due("fault of " + script, probe.ring.fault(), 0);
    }

    private static void fault(int kind, String marked) {
        int place = marked.indexOf('|');
        String script = marked.substring(0, place) + marked.substring(place + 1);
        Probe probe = new Probe();
        Due.due("place of " + marked, probe.script(script), -1 - place);
        Due.due("fault of " + marked, probe.ring.fault(), kind);
        Due.due("no names of " + marked, probe.ring.count(5), 0);
    }

    private static void told() {
        lines(0, "");
        lines(0, " \n  \n");
        lines(1, "a=1;");
        lines(1, "\n a \n=\n 1 \n; ");
        lines(3, "field 2 7;turn 1;slope 3;");
        lines(1, "turn 0;");
        lines(2, "slope 1;a=1;");
        lines(2, "field 3 13;slope 7;");
        lines(2, "turn 0;slope 0;");
        lines(1, "field 1 2;");
        lines(1, "field 001 003;");
        lines(12, TWELVE);
        lines(14, TWELVE + "a=x;l=a;");
        lines(2, "abcdef=1;abcdeg=abcdef;");
        lines(5, "abcdef=1;bbcdef=1;ebcdef=1;ibcdef=1;qbcdef=abcdef;");
        lines(2, "fields=1;turns=fields;");
        lines(2, "xx=1;xy=xx;");
        for (int p : new int[] {2, 3}) {
            lines(1, "field 1 " + p + ";");
        }
        int[][] moduli = {{2, 7}, {3, 11}, {3, 13}, {4, 19}, {4, 25}, {4, 31}, {5, 37}, {5, 61}, {6, 67}, {6, 73}, {7, 131},
            {7, 137}, {8, 283}, {8, 285}, {8, 501}};
        for (int[] told : moduli) {
            lines(1, "field " + told[0] + " " + told[1] + ";");
        }
        moduliOf(5);
        moduliOf(8);
    }

    /** Each number of so many bits and one more is a modulus, if it is no product of lesser ones. */
    private static void moduliOf(int bits) {
        boolean[] product = new boolean[1 << (bits + 1)];
        for (int a = 2; a < 1 << bits; a++) {
            for (int b = 2; b < 1 << bits; b++) {
                int whole = 0;
                for (int k = 0; k < bits; k++) {
                    whole ^= (b >> k & 1) == 1 ? a << k : 0;
                }
                if (whole < product.length) {
                    product[whole] = true;
                }
            }
        }
        for (int p = 1 << bits; p < product.length; p += 1 + p % 3) {
            if (product[p]) {
                fault(2, "field " + bits + " |" + p + ";");
            } else {
                lines(1, "field " + bits + " " + p + ";");
            }
        }
    }

    private static void is(String about, String script, String... due) {
        Probe probe = Probe.of(script);
        for (int i = 0; i < due.length; i++) {
            Due.due(about + " " + i, probe.named(i), due[i]);
        }
        Due.due(about + " names", probe.ring.count(5), due.length);
    }

    private static void worked() {
        is("atoms", FOUR + "a=3;b=x;c=b;d=(2);e=0;", "3", "0 1", "0 1", "2", "");
        is("sums", FOUR + "a=x+2+x^3;b=a+a;c=1+2+3;", "2 1 0 1", "", "");
        is("x past a number", FOUR + "a=x*2;b=2*x;c=x*(2+x);", "1 3", "0 2", "1 3 1");
        is("products ahead of sums", FOUR + "a=x*x+1*2;b=x*(x+1)*2;", "2 0 1", "1 3 2");
        is("powers", FOUR + "a=x^0;b=0^0;c=0^3;d=2^2;e=2^3;f=(x+1)^2;g=x^16;", "1", "1", "", "3", "1", "1 0 1",
            "0 0 0 0 0 0 0 0 0 0 0 0 0 0 0 0 1");
        is("power of a number past x", FOUR + "a=(2*x)^2;b=2*x*2*x;c=2*x^2;", "0 2 1", "0 2 1", "0 0 2");
        is("told again", FOUR + "a=x;b=a;a=a*a;c=a+b;", "0 0 1", "0 1", "0 1 1");
        is("two of the field of two", "a=1+1;b=x+1;c=b^2;", "", "1 1", "1 0 1");
        is("quo", FOUR + "a=2*x+1;b=quo(a*(x+3),x+3);c=lquo((x+3)*a,x+3);d=rem(a*(x+3)+1,x+3);e=lrem((x+3)*a+1,x+3);",
            "1 2", "1 2", "1 2", "1", "1");
        is("quo of lesser", FOUR + "a=quo(x,x^2);b=rem(x,x^2);c=lquo(1,x);d=lrem(2,x);e=quo(0,x);", "", "0 1", "", "2", "");
        is("parts", FOUR + "f=x+2;g=x+3;a=gcd(x*f,g*f);b=lgcd(f*x,f*g);c=gcd(0,2*x);d=lgcd(2*x,0);e=gcd(0,0);h=lgcd(0,0);",
            "2 1", "3 1", "2 1", "2 1", "0 1", "2 1", "", "");
        is("multiples", FOUR + "a=lcm(x,x);b=llcm(x,x);c=lcm(0,x);d=llcm(x,0);e=lcm(2,3);f=llcm(2*x,1);g=lcm(0,0);",
            "0 1", "0 1", "", "", "1", "2 1", "");
        is("within", FOUR + "a=gcd(gcd(x,x),quo(x^2,x))*2;", "1 3");
        is("six brackets", FOUR + "a=((((((x))))));b=gcd(gcd(gcd(gcd(gcd(gcd(x,x),x),x),x),x),x);c=(x)*(x)*(x);",
            "0 1", "0 1", "0 0 0 1");
        is("of degree 16", "a=x^8*x^8;b=(x^4)^4;c=0*x^16*x^16;d=x^16*1*1;e=lcm(x^16,x^2);f=(x^16+x^16)^16;g=x^16*x^0;",
            x16(), x16(), "", x16(), x16(), "", x16());
    }

    private static String x16() {
        return "0 ".repeat(16) + "1";
    }

    private static void noTokens() {
        fault(1, "|A=1;");
        fault(1, "a|\t=1;");
        fault(1, "a=1;|\r");
        fault(1, "a=1;|\0");
        fault(1, "a=1;|" + (char) 255);
        fault(1, "|_=1;");
        fault(1, "a=|-1;");
        fault(1, "a=1|.;");
        fault(1, "|abcdefg=1;");
        fault(1, "a=|abcdefg;");
        fault(1, "a=|0001;");
        fault(1, "a=x^|0001;");
        fault(1, "a=|x1;");
        fault(1, "a=|1x;");
        fault(1, "|a1=1;");
        fault(1, "a=x^|1a;");
        fault(1, "|field2 7;");
        fault(1, "field 2 |7turn;");
        fault(1, "a=1|{;");
        fault(1, "a|`=1;");
        fault(1, "a=1|:");
        fault(1, "a=1|/1;");
    }

    private static void cannotCome() {
        for (String marked : new String[] {"a|", "a=|", "a=1|", "a=1;b|", "a=1+|", "a=1*|", "a=x^|", "a=(|", "a=(1|", "a=gcd|",
            "a=gcd(|", "a=gcd(1|", "a=gcd(1,|", "a=gcd(1,1|", "field|", "field 2|", "field 2 7|", "turn|", "turn 0|",
            "slope|", "slope 0|", "a=1 \n |"}) {
            fault(1, marked);
        }
        for (String marked : new String[] {"|;", "a=1;|;", "|=1;", "|1=1;", "|(a)=1;", "|x=1;", "|quo=1;", "|llcm=1;", "a|+1;",
            "a |1;", "a|;", "a |a=1;", "a=|;", "a=|=1;", "a=|+1;", "a=|*1;", "a=|^1;", "a=|,1;", "a=|);", "a=1|=1;", "a=1|);",
            "a=1|,1;", "a=1 |1;", "a=x |x;", "a=1|(1);", "a=x^|x;", "a=x^|(1);", "a=x^|;", "a=x^2|^2;", "a=1+|+1;",
            "a=1+|;", "a=1*|;", "a=1*|*1;", "a=(|);", "a=(1|;", "a=(1|,1);", "a=gcd|;", "a=gcd |x;", "a=gcd|+1;",
            "a=gcd(|);", "a=gcd(|,1);", "a=gcd(1|);", "a=gcd(1,|);", "a=gcd(1,1|,1);", "a=gcd(1,1|;", "a=|field;",
            "a=|turn;", "a=|slope;", "field |x 7;", "field |;", "field 2|;", "field 2 |x;", "field 2 7|=", "field 2 7 |7;",
            "turn |;", "turn |a;", "turn 0 |0;", "slope |x;", "slope 0|,", "field |(2) 7;", "a=1;|x=1;", "a=1;|gcd=1;"}) {
            fault(1, marked);
        }
    }

    private static void noSuchNumbers() {
        for (String marked : new String[] {"field |0 1;", "field |9 700;", "field |999 3;", "field 1 |1;", "field 1 |4;",
            "field 1 |0;", "field 2 |4;", "field 2 |5;", "field 2 |6;", "field 2 |3;", "field 2 |8;", "field 3 |9;",
            "field 3 |15;", "field 3 |7;", "field 3 |16;", "field 4 |21;", "field 8 |257;", "field 8 |255;", "field 8 |512;",
            "field 8 |999;", "turn |1;", "field 2 7;turn |2;", "field 8 283;turn |8;", "slope |2;", "field 2 7;slope |4;",
            "field 8 283;slope |256;", "a=|2;", "field 2 7;a=|4;", "field 8 283;a=|256;", "a=x^|17;", "a=1^|999;",
            "a=0^|17;", "a=x^16*x^|17;", "field |9", "a=|2", "a=x^|17 ^", "field 2 |5 x"}) {
            fault(2, marked);
        }
    }

    private static void noSuchNames() {
        for (String marked : new String[] {"turn 0;|field 2 7;", "field 2 7;|field 2 7;", "slope 0;|turn 0;",
            "slope 0;|field 1 3;", "turn 0;|turn 0;", "slope 0;|slope 0;", "a=1;|field 1 3;", "a=1;|turn 0;",
            "a=1;|slope 0;", "field 2 7;slope 1;|turn 1;", "a=|a;", "a=|b;", "a=1;b=a*|c;", "a=gcd(1,|b);", "a=|fiel;",
            "a=1;|field", "turn 0;|field =", "a=|b", "a=1;b=|ab;", "ab=1;b=|a;", "abcdef=1;b=|abcdeg;", "abcdef=1;b=|bbcdef;",
            "abcdef=1;b=|ebcdef;", "abcdef=1;b=|qbcdef;", "abcdef=1;b=|bcdef;", "a=1;b=|aa;"}) {
            fault(3, marked);
        }
    }

    private static void tooMuch() {
        fault(4, TWELVE + "|m=1;");
        fault(4, TWELVE + "|m");
        fault(4, TWELVE + "a=x;|m=y;");
        for (String marked : new String[] {"a=((((((|(x)))))));", "a=((((((|(", "a=(1)+((((((|(x)))))));",
            "a=((((((|gcd(x,x)))))));", "a=gcd(gcd(gcd(gcd(gcd(gcd(|gcd(1,1),1),1),1),1),1),1);",
            "a=gcd(1,gcd(1,gcd(1,gcd(1,gcd(1,gcd(1,|(x)))))));", "a=((((((|gcd"}) {
            fault(4, marked);
        }
        for (String marked : new String[] {"a=x^16|*x;", "a=x^16|*x", "a=x^16|*x @", "a=x^16|*x;;", "a=(x^2)|^9;", "a=(x^2)|^9",
            "a=(x^9)|^2*x;", "a=x^9*(x^2)|^9;", "a=x^9|*(x^2)^8;", "a=x^16|*x*0;", "a=x*x^8|*x^8*x;", "a=x^10|*(x^5*x^2);",
            "a=x^16|*x*x^17;", "a=|lcm(x^9,x^9+1);", "a=|llcm(x^9,x^9+1);", "a=x*|lcm(x^9,x^9+1);", "a=|lcm(x^9,x^9+1)@",
            "a=x^16;b=a|*a;", "a=x+(x^16|*x);", "a=gcd(x^16|*x,1);", "a=gcd(1,x^16|*x);", "a=(x+1)*x^8|*(x^8+1);",
            "a=x^16|*gcd(x,x);", "a=x^16|*(x);"}) {
            fault(4, marked);
        }
        fault(2, "a=x^16*x^|17;");
        fault(1, "a=x^16*x^|x;");
        fault(1, "a=x^16*x^|");
        fault(1, "a=x^16*|@");
        fault(1, "a=x^16*(x|;");
    }

    private static void byZero() {
        for (String marked : new String[] {"a=|quo(x,0);", "a=|rem(x,1+1);", "a=|lquo(x,0);", "a=|lrem(0,0);",
            "a=x*|quo(1,0)^2;", "a=|quo(x,0)", "a=|quo(x,0)@", "a=x^16*|quo(x,0)*x;", "a=quo(|rem(1,0),0);"}) {
            fault(5, marked);
        }
        fault(1, "a=quo(x,0|;");
        lines(1, "a=gcd(x,0)+lgcd(0,x)+lcm(x,0)+llcm(0,x)+gcd(0,0);");
    }

    private static void ofFiveHundred() {
        String full = " ".repeat(496) + "a=1;";
        lines(1, full);
        fault(1, full + "| ");
        lines(0, " ".repeat(500));
        fault(1, " ".repeat(500) + "| ");
        fault(1, " ".repeat(500) + "|a=1;");
        fault(1, " ".repeat(497) + "a=1|;");
        fault(1, full + "|@");
        fault(1, " ".repeat(495) + "|@a=1;b");
        fault(4, TWELVE + " ".repeat(499 - TWELVE.length()) + "|bcdefg=1;");
        fault(1, TWELVE + " ".repeat(500 - TWELVE.length()) + "|bcdefg=1;");
        fault(1, TWELVE + " ".repeat(499 - TWELVE.length()) + "|bcdefgh=1;");
        fault(2, "a=x^" + " ".repeat(495) + "|17;");
        fault(1, "a=x^" + " ".repeat(494) + "16|;");
        fault(3, "a=" + " ".repeat(497) + "|bb;");
        fault(1, "a=1;b=" + " ".repeat(493) + "a| ;");
        fault(1, "a=1;aa=1;b=" + " ".repeat(487) + "aa|;a");
        fault(1, "a=" + " ".repeat(497) + "|1234;");
        fault(4, "a=x^16|*" + " ".repeat(492) + "x;    ");
        fault(1, " ".repeat(490) + "|=" + " ".repeat(40));
        fault(1, " ".repeat(500) + "|" + " ".repeat(40));
        acrossFiveHundred();
        StringBuilder longest = new StringBuilder("a=x;");
        while (longest.length() < 500) {
            longest.append("a=a;");
        }
        lines(125, longest.toString());
        fault(1, longest + "|a=a;");
    }

    /** A TOKEN that begins ahead of byte 500 is read whole; what comes behind it is a FAULT at 500, not where it ends. */
    private static void acrossFiveHundred() {
        across("", "abc", "def");
        across("", "a", "bcdef;");
        across("a=1;", "ab", "c=1;");
        across("ab=1;c=", "a", "b;");
        across("ab=1;c=x*", "a", "b");
        across("ab=1;c=(", "a", "b);");
        across("field 8 283;a=", "25", "5;");
        across("field 8 283;a=x+", "2", "55+x;");
        across("a=x^", "1", "6;");
        across("a=x^", "0", "16*x;");
        across("a=", "gc", "d(1,1);");
        across("", "fie", "ld 2 7;");
        across("field ", "0", "08 283;");
        across("field 8 ", "2", "83;");
        across("", "tur", "n 0;");
        across("turn ", "0", "00;");
        across("slope ", "0", "01;");
        fault(4, "xx=x;a=x^16|*" + " ".repeat(486) + "xx;");
        fault(4, "a=(x^9)|^" + " ".repeat(491) + "02;");
        fault(2, "a=x^" + " ".repeat(495) + "|17;");
        fault(3, "a=" + " ".repeat(496) + "|bcd;");
        fault(3, "a=1;" + " ".repeat(494) + "|turn 0;");
        fault(1, "a=1;" + " ".repeat(494) + "|lgcd(1,1);");
        fault(1, "a=" + " ".repeat(497) + "|1a;");
    }

    /** One TOKEN of two parts, the first of which ends at byte 500. */
    private static void across(String ahead, String one, String other) {
        fault(1, ahead + " ".repeat(500 - ahead.length() - one.length()) + one + "|" + other);
    }

    private static void staysOnFault() {
        Probe probe = Probe.of(FOUR + "a=x+2;b=a*a;");
        probe.bytes(1, 2, 3).ring.points();
        probe.ring.divides(1, 0, 0);
        probe.ring.keep(0, 0);
        String before = probe.all();
        String[] bad = {"a=4;", "field 8 283;turn 3;slope 200;c=200;d=y;", "c=1", TWELVE + "m=1;", "field 3 11;slope 7|", "a=x^17;"};
        int[] kinds = {2, 3, 1, 4, 1, 2};
        for (int k = 0; k < bad.length; k++) {
            Due.due("bad " + bad[k], probe.script(bad[k]) < 0, true);
            Due.due("kind " + bad[k], probe.ring.fault(), kinds[k]);
            Due.due("all as it was behind " + bad[k], probe.all(), before);
            Due.due("times", probe.ring.times(2, 2), 3);
            Due.due("turned", probe.ring.turned(2, 1), 3);
        }
        Due.due("kept yet", probe.ring.undo(), 0);
        probe.script("a=1;");
        Due.due("fault of a good one", probe.ring.fault(), 0);
        probe.script("@");
        probe.bytes(1).ring.rank();
        Due.due("fault stays behind other calls", probe.ring.fault(), 1);
    }

    private static void newOnes() {
        Probe probe = Probe.of(FOUR + "a=x+2;b=a*a;c=3;");
        probe.bytes(1, 2, 3).ring.points();
        probe.ring.divides(1, 0, 0);
        probe.bytes(1, 2, 1, 2).ring.register();
        int tap = probe.ring.tap(1);
        String results = probe.result(0) + "/" + probe.result(1);
        probe.ring.keep(0, 0);
        probe.ring.image(1);
        Due.due("new lines", probe.script("b=x;"), 1);
        int[] counts = {1, 3, 0, 0, 1, 1, 0, 0, 0};
        for (int what = 0; what < counts.length; what++) {
            Due.due("new script, count " + what, probe.ring.count(what), counts[what]);
        }
        Due.due("new name", probe.named(0), "0 1");
        Due.throwsNoSuch("old name", () -> probe.ring.degree(1));
        Due.due("results stay", probe.result(0) + "/" + probe.result(1), results);
        Due.due("tap stays", probe.ring.tap(1), tap);
        Due.due("nothing to undo", probe.ring.undo(), -1);
        Due.due("no points", probe.ring.word(0, 0), -1);
        Due.due("no points for a distance", probe.ring.distance(1), -2);
        Due.due("old names are not told ahead", probe.script("a=b;"), -3);
        Due.due("image stays", probe.ring.restore(1), true);
        Due.due("its points", probe.ring.count(6), 3);
        Due.due("none", probe.script(""), 0);
        Due.due("no names", probe.ring.count(5), 0);
        Due.due("field of two", probe.ring.count(0), 1);
    }

    /** Texts made at random with what they are worth. */
    private static void randomOnes() {
        Random random = new Random(7);
        int[][] fields = {{1, 3, 0, 0}, {2, 7, 1, 3}, {3, 11, 1, 5}, {3, 13, 0, 2}, {4, 25, 2, 9}, {8, 283, 4, 100}};
        for (int k = 0; k < 400; k++) {
            int[] told = fields[k % fields.length];
            Naive naive = new Naive(told[0], told[1], told[2], told[3]);
            RandomScript script = new RandomScript(naive, random);
            script.write(1 + random.nextInt(5));
            Probe probe = new Probe();
            Due.due("lines of " + script.text(), probe.script(script.text()), script.answer());
            Due.due("fault of " + script.text(), probe.ring.fault(), script.fault());
            for (int i = 0; i < probe.ring.count(5); i++) {
                Due.due("name " + i + " of " + script.text(), probe.named(i), script.named(i));
            }
        }
    }
}
