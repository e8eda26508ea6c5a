/** The edges of the tape and its tokens. */
public final class TapeEdgesTest {
    private static final Edges EDGES = new Edges();
    private static final long BLANKS = 0x2020202020202020L;

    public static void main(String[] args) {
        mostSigns();
        beyondMost();
        whichSigns();
        taken();
        asLongAsCanBe();
        blanks();
        words();
        numbers();
        signs();
        noToken();
        EDGES.end("TapeEdgesTest");
    }

    private static LaundrySky fed(int signs) {
        LaundrySky sky = new LaundrySky();
        Due.type(sky, " ".repeat(signs));
        return sky;
    }

    private static void mostSigns() {
        EDGES.terms("The TAPE has at most 1,000 signs");
        LaundrySky sky = fed(975);
        EDGES.due("24 more are 999", sky.feed(BLANKS, BLANKS, BLANKS), 999);
        EDGES.due("the thousandth", sky.feed(BLANKS, 0, 0), 1000);
        EDGES.due("no more", sky.feed(BLANKS, BLANKS, BLANKS), 1000);
        EDGES.due("it is as long", sky.count(11), 1000);
        LaundrySky full = fed(976);
        EDGES.due("24 more are 1000 at once", full.feed(BLANKS, BLANKS, BLANKS), 1000);
        EDGES.street(" ".repeat(992) + "dries 1;", 0, 0);
        EDGES.street(" ".repeat(999) + ";", 1, 999);
    }

    private static void beyondMost() {
        EDGES.promise(2, "and what is beyond 1,000, are left out");
        EDGES.street(" ".repeat(993) + "dries 1;", 1, 1000);
        EDGES.street(" ".repeat(1000) + "?", 0, 0);
        LaundrySky sky = fed(995);
        EDGES.due("five of twenty-four", sky.feed(0x6c696e6520612070L, 0x6c696e6520612070L, 0x6c696e6520612070L), 1000);
        EDGES.due("line and a blank", sky.street(), 1 + 16 * 1000);
        EDGES.due("the tape has room again", sky.feed(BLANKS, 0, 0), 8);
    }

    private static void whichSigns() {
        EDGES.terms("10 and 32 .. 126");
        for (int sign = 0; sign < 256; sign++) {
            boolean counts = sign == 10 || sign >= 32 && sign <= 126;
            for (int shift = 0; shift < 64; shift += 8) {
                EDGES.due("sign " + sign, new LaundrySky().feed((long) sign << shift, 0, 0), counts ? 1 : 0);
                EDGES.due("sign " + sign, new LaundrySky().feed(0, (long) sign << shift, 0), counts ? 1 : 0);
                EDGES.due("sign " + sign, new LaundrySky().feed(0, 0, (long) sign << shift), counts ? 1 : 0);
            }
        }
        EDGES.due("all bits", new LaundrySky().feed(-1, -1, -1), 0);
        EDGES.due("the least", new LaundrySky().feed(Long.MIN_VALUE, Long.MIN_VALUE, Long.MIN_VALUE), 0);
        EDGES.due("the greatest: 127 and 255", new LaundrySky().feed(Long.MAX_VALUE, Long.MAX_VALUE, Long.MAX_VALUE), 0);
    }

    private static void taken() {
        EDGES.terms("what reads it takes it: it is empty then");
        LaundrySky sky = new LaundrySky();
        for (String text : new String[] {"line a pegs 1;", "line a pegs", "?", "hour;", "hour", " "}) {
            Due.type(sky, text);
            sky.street();
            EDGES.due("behind street of " + text, sky.count(11), 0);
            Due.type(sky, text);
            sky.morning();
            EDGES.due("behind morning of " + text, sky.count(11), 0);
        }
        Due.type(sky, "line a pegs 1;");
        EDGES.due("a street", sky.street(), 0);
        EDGES.due("read again it is an empty one", sky.street(), 0);
        EDGES.due("without lines", sky.count(0), 0);
        Due.type(sky, "line a");
        EDGES.due("no fault stays on it", sky.street(), 1 + 16 * 6);
        Due.type(sky, "line a pegs 1;");
        EDGES.due("what comes then stands at its begin", sky.street(), 0);
        Due.type(sky, "hour;hour;");
        sky.morning();
        EDGES.due("an empty morning", sky.morning(), 0);
        EDGES.due("has no lines", sky.count(8), 0);
    }

    private static void asLongAsCanBe() {
        EDGES.terms("TOKENS, each as long as can be");
        EDGES.street("linea pegs 1;", 1, 0);
        EDGES.street("line linea pegs 1;", 0, 0);
        EDGES.street("line lin pegs 1;", 0, 0);
        EDGES.street("line a pegs 10;", 4, 12);
        EDGES.street("line a pegs 1;place p undera;", 1, 22);
        EDGES.street("dries sunsun;", 1, 6);
        EDGES.street("dries notdamp;", 1, 6);
        EDGES.street("dries 1 andor 1;", 1, 8);
        EDGES.morning(new LaundrySky(), "hourhour;", 1, 0);
    }

    private static void blanks() {
        EDGES.terms("blanks (10, 32) between where one likes");
        EDGES.street("line a pegs9;place p under a;cloth c sock wet20;dries(damp)+1*2<3and 4;", 0, 0);
        EDGES.street("\n \n line \n\n a\n pegs\n9 ;\n", 0, 0);
        EDGES.street("dries not(1);", 0, 0);
        EDGES.street("li ne a pegs 1;", 1, 0);
        EDGES.street("line a pegs 1 0;", 1, 14);
        EDGES.street("line a pegs\n", 1, 12);
        EDGES.morning(new LaundrySky(), "\nhour\n;\n hour;", 0, 0);
    }

    private static void words() {
        EDGES.terms("WORDS (letters a .. z, 8 at most)");
        EDGES.street("line a pegs 1;line z pegs 1;line abcdefgh pegs 1;line zzzzzzzz pegs 1;", 0, 0);
        EDGES.street("line abcdefghi pegs 1;", 1, 5);
        EDGES.street("line " + "a".repeat(990) + ";", 1, 5);
        EDGES.street("line aaaaaaab pegs 1;line aaaaaaaa pegs 1;line baaaaaaa pegs 1;line aaaaaaa pegs 1;", 0, 0);
        EDGES.street("line aaaaaaab pegs 1;line aaaaaaab", 3, 26);
        for (char sign : new char[] {'`', '{', '@', 'A', 'Z', '['}) {
            EDGES.street("line " + sign + " pegs 1;", 1, 5);
            EDGES.street("line a" + sign + " pegs 1;", 1, 6);
        }
        // as many letters as sheet and more, the same in all but one
        EDGES.street("cloth c sheex wet 1;", 1, 8);
        EDGES.street("cloth c sheett wet 1;", 1, 8);
        EDGES.street("crossess a b;", 1, 0);
    }

    private static void numbers() {
        EDGES.terms("NUMBERS (1 to 4 digits; a letter may stand right behind)");
        EDGES.street("dries 0;", 0, 0);
        EDGES.street("dries 9999;", 0, 0);
        EDGES.street("dries 0000;", 0, 0);
        EDGES.street("dries 00000;", 1, 6);
        EDGES.street("dries 10000;", 1, 6);
        EDGES.street("dries " + "9".repeat(990) + ";", 1, 6);
        EDGES.street("line a pegs 0009;", 0, 0);
        EDGES.street("dries 1and 2or 3;", 0, 0);
        EDGES.street("line a pegs 1x;", 1, 13);
        EDGES.street("dries 12345and 1;", 1, 6);
        EDGES.street("dries 1/1;", 1, 7);
        EDGES.street("dries 1:1;", 1, 7);
        EDGES.street("dries 0123456789;", 1, 6);
        EDGES.street("dries 012+3456+789;", 0, 0);
    }

    private static void signs() {
        EDGES.terms("the signs ( ) < = + - * ;");
        EDGES.street("dries (1<2)=(3+4-5*6);", 0, 0);
        String signs = "()<=+-*;";
        for (char sign = 33; sign <= 126; sign++) {
            boolean letter = sign >= 'a' && sign <= 'z';
            boolean digit = sign >= '0' && sign <= '9';
            if (!letter && !digit && signs.indexOf(sign) < 0) {
                EDGES.street("" + sign, 1, 0);
                EDGES.street("dries 1" + sign + "1;", 1, 7);
                EDGES.street("line a pegs 1" + sign, 1, 13);
            }
        }
        for (char sign : signs.toCharArray()) {
            EDGES.street("" + sign, 1, 0);
            EDGES.street("line " + sign, 1, 5);
            EDGES.street("line a pegs " + sign, 1, 12);
        }
    }

    private static void noToken() {
        EDGES.terms("All else (a longer WORD or NUMBER, too, at its first sign) is none.");
        EDGES.street("line abcdefghi pegs 1;", 1, 5);
        EDGES.street("line a pegs 12345;", 1, 12);
        EDGES.street("cloth c sock wet 99999;", 1, 17);
        EDGES.street("line a pegs 1;place p under abcdefghi;", 1, 28);
        EDGES.street("abcdefghi", 1, 0);
        EDGES.street("dries 1;12345", 1, 8);
        LaundrySky sky = Due.sky("line a pegs 9;cloth c sock wet 1;");
        EDGES.morning(sky, "hang c a 00001;", 1, 9);
        EDGES.morning(sky, "take abcdefghi;", 1, 5);
        EDGES.morning(sky, "take c.;", 1, 6);
    }
}
