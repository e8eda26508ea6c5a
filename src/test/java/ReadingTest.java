/** Promises 1 to 4: a new object, the tape, streets and mornings with their faults. */
public final class ReadingTest {
    private static final Due DUE = new Due();
    private static final String LINES = "line a pegs 1;line b pegs 2;";

    public static void main(String[] args) {
        newObject();
        feeding();
        tokens();
        streets();
        names();
        numbers();
        tooMany();
        laws();
        faultLeavesAll();
        streetStartsAnew();
        mornings();
        DUE.end("ReadingTest");
    }

    private static void newObject() {
        LaundrySky sky = new LaundrySky();
        for (int what = 0; what <= 11; what++) {
            DUE.due("count(" + what + ") of a new object", sky.count(what), 0);
        }
        DUE.due("undo of a new object", sky.undo(), false);
        DUE.due("mark of a new object", sky.mark(0, true), false);
        DUE.due("a mark of nothing is laid", sky.mark(0, false), true);
        DUE.due("and gone back to", sky.mark(0, true), true);
        DUE.due("an empty street", sky.street(), 0);
        DUE.due("an empty morning", sky.morning(), 0);
        DUE.due("wish of a new object", sky.wish(-1), 0);
        DUE.due("NONE", LaundrySky.NONE, -1);
    }

    private static void feeding() {
        LaundrySky sky = new LaundrySky();
        DUE.due("no sign", sky.feed(0, 0, 0), 0);
        DUE.due("none of these are signs", sky.feed(0x0001091f7f80ffffL, -1L, 0x0d0b0c1b00000000L), 0);
        DUE.due("the edges", sky.feed(0x0a201f7e7f000000L, 0, 0), 3);
        DUE.due("count", sky.count(11), 3);
        for (int i = 0; i < 41; i++) {
            sky.feed(0x2020202020202020L, 0x2020202020202020L, 0x2020202020202020L);
        }
        DUE.due("41 times 24 and 3", sky.count(11), 987);
        DUE.due("13 more", sky.feed(0x2020202020202020L, 0x2020202020202020L, 0x3b3b3b3b3b3b3b3bL), 1000);
        DUE.due("full", sky.feed(0x2020202020202020L, 0, 0), 1000);
        DUE.due("the third sign, 126, is none", sky.street(), 1 + 16 * 2);
        DUE.due("the tape is taken", sky.count(11), 0);
        order();
        fullTapes();
        shorterTapes();
    }

    /** A token, or a blank, that ends with the tape's last sign. */
    private static void fullTapes() {
        String law = "dries 1" + "+1".repeat(496);
        DUE.due("the test's own length", law.length(), 999);
        DUE.street(law + "1", 1, 1000);
        DUE.street(law + ";", 0, 0);
        DUE.street(law + "a", 1, 999);
        DUE.street(law + " ", 1, 1000);
        DUE.street(law + "+", 1, 1000);
        DUE.street(law.substring(1) + ";;", 1, 0);
        DUE.street(law + "+;", 1, 1000);
    }

    /** What an earlier, longer text left is not read again. */
    private static void shorterTapes() {
        LaundrySky sky = new LaundrySky();
        for (String text : new String[] {"dries 1", "dries sun", "dries ", "dries 1 ", "dries 1 +"}) {
            Due.type(sky, "dries 123;cloth abc sock wet 20;");
            DUE.due("a street", sky.street(), 0);
            Due.type(sky, "dries sunny sunny sunny");
            DUE.due("no street", sky.street(), 1 + 16 * 6);
            Due.type(sky, text);
            DUE.due("the end of " + text, sky.street(), 1 + 16 * text.length());
            Due.type(sky, "dries 1                                ");
            DUE.due("blanks", sky.street(), 1 + 16 * 39);
            Due.type(sky, text);
            DUE.due("the end of " + text, sky.street(), 1 + 16 * text.length());
        }
        Due.type(sky, "dries 1111");
        sky.street();
        Due.type(sky, "dries 1");
        DUE.due("the end", sky.street(), 1 + 16 * 7);
    }

    private static void order() {
        LaundrySky sky = new LaundrySky();
        // "line a p" "egs 9;" behind left out bytes in between
        DUE.due("feed", sky.feed(0x6c696e6520612070L, 0x6567000073203900L, 0x3b000000000000ffL), 14);
        DUE.due("street", sky.street(), 0);
        DUE.due("pegs", sky.line(0, 0), 9);
    }

    private static void tokens() {
        DUE.street("", 0, 0);
        DUE.street(" \n ", 0, 0);
        DUE.street("line a pegs 1 ;", 0, 0);
        DUE.street("line\na\npegs\n0001;line b pegs1;line c pegs 9;", 0, 0);
        DUE.street("line abcdefgh pegs 1;", 0, 0);
        DUE.street("line abcdefghi pegs 1;", 1, 5);
        DUE.street("line zz pegs 1;line az pegs 9;line za pegs 1;place z under zz az za;", 0, 0);
        DUE.street("line a pegs 00001;", 1, 12);
        DUE.street("line a pegs 1place b under a;", 1, 13);
        DUE.street("line a pegs 1;dries 1and 2or 3;", 0, 0);
        DUE.street("line a1 pegs 1;", 1, 6);
        DUE.street("line A pegs 1;", 1, 5);
        DUE.street("Line a pegs 1;", 1, 0);
        DUE.street("line a_b pegs 1;", 1, 6);
        DUE.street("line a, pegs 1;", 1, 6);
        DUE.street("line a pegs 1.", 1, 13);
        DUE.street("~", 1, 0);
        DUE.street(";", 1, 0);
        DUE.street("line a pegs 1;;", 1, 14);
    }

    private static void streets() {
        DUE.street("line", 1, 4);
        DUE.street("line  ", 1, 6);
        DUE.street("line a", 1, 6);
        DUE.street("line a pegs", 1, 11);
        DUE.street("line a pegs 1", 1, 13);
        DUE.street("line a wet 1;", 1, 7);
        DUE.street("line a pegs b;", 1, 12);
        DUE.street("line a pegs 1 2;", 1, 14);
        DUE.street("place p under a;", 2, 14);
        DUE.street(LINES + "place", 1, 33);
        DUE.street(LINES + "place p", 1, 35);
        DUE.street(LINES + "place p a;", 1, 36);
        DUE.street(LINES + "place p under", 1, 41);
        DUE.street(LINES + "place p under;", 1, 41);
        DUE.street(LINES + "place p under 1;", 1, 42);
        DUE.street(LINES + "place p under a", 1, 43);
        DUE.street(LINES + "place p under a under;", 1, 44);
        DUE.street(LINES + "place p under b a;", 0, 0);
        DUE.street(LINES + "place p under a b a;", 3, 46);
        DUE.street(LINES + "place p under a c;", 2, 44);
        DUE.street(LINES + "place p under p;", 2, 42);
        DUE.street("line a pegs 1;line b pegs 1;line c pegs 1;line d pegs 1;line e pegs 1;place p under e d c b a;",
            0, 0);
        DUE.street("line a pegs 1;line b pegs 1;line c pegs 1;line d pegs 1;line e pegs 1;place p under e d c b a a;",
            3, 94);
        DUE.street("cloth c sock wet 20;cloth d sheet wet 1;cloth e shirt wet 1;cloth f skirt wet 1;", 0, 0);
        DUE.street("cloth", 1, 5);
        DUE.street("cloth c", 1, 7);
        DUE.street("cloth c wet 1;", 1, 8);
        DUE.street("cloth c socks wet 1;", 1, 8);
        DUE.street("cloth c 1 wet 1;", 1, 8);
        DUE.street("cloth c sock 1;", 1, 13);
        DUE.street("cloth c sock wet;", 1, 16);
        DUE.street("cloth c sock wet 1", 1, 18);
        DUE.street("street;", 1, 0);
        DUE.street("hang a b 1;", 1, 0);
        DUE.street("12;", 1, 0);
    }

    private static void names() {
        for (String word : new String[] {"line", "pegs", "place", "under", "cloth", "wet", "crosses", "dries", "hang",
            "take", "wash", "hour", "sheet", "shirt", "skirt", "sock", "not", "and", "or"}) {
            DUE.street("line " + word + " pegs 1;", 1, 5);
            DUE.street("cloth " + word + " sock wet 1;", 1, 6);
            DUE.street(LINES + "place " + word + " under a;", 1, 34);
            DUE.street(LINES + "place p under " + word + ";", 1, 42);
            DUE.street(LINES + "crosses " + word + " a;", 1, 36);
        }
        for (String word : new String[] {"damp", "loose", "sun", "clock", "street", "morning", "peg", "lines", "nota"}) {
            DUE.street("line " + word + " pegs 1;place p under " + word + ";dries sun;", 0, 0);
        }
        DUE.street("line a pegs 1;line a pegs 1;", 3, 19);
        DUE.street(LINES + "place a under a;", 3, 34);
        DUE.street(LINES + "place p under a;place p under a;", 3, 50);
        DUE.street(LINES + "place p under a;line p pegs 1;", 3, 49);
        DUE.street(LINES + "cloth b sock wet 1;", 3, 34);
        DUE.street("cloth c sock wet 1;line c pegs 1;", 3, 24);
        DUE.street(LINES + "cloth c sock wet 1;place p under c;", 2, 61);
        DUE.street(LINES + "cloth c sock wet 1;place c under a;", 3, 53);
        DUE.street(LINES + "crosses a b;", 0, 0);
        DUE.street(LINES + "crosses a a;", 3, 38);
        DUE.street(LINES + "crosses c a;", 2, 36);
        DUE.street(LINES + "crosses a c;", 2, 38);
        DUE.street(LINES + "crosses a;", 1, 37);
        DUE.street(LINES + "crosses a b a;", 1, 40);
        DUE.street(LINES + "crosses a b;crosses a b;", 3, 50);
        DUE.street(LINES + "crosses a b;crosses b a;", 3, 50);
        DUE.street(LINES + "line c pegs 1;crosses a b;crosses b c;crosses c a;", 0, 0);
    }

    private static void numbers() {
        DUE.street("line a pegs 0;", 4, 12);
        DUE.street("line a pegs 9;", 0, 0);
        DUE.street("line a pegs 10;", 4, 12);
        DUE.street("cloth c sock wet 0;", 4, 17);
        DUE.street("cloth c sock wet 21;", 4, 17);
        DUE.street("cloth c sock wet 0020;", 0, 0);
        DUE.street("cloth c sock wet 9999;", 4, 17);
        DUE.street("dries 9999;", 0, 0);
        DUE.street("dries 10000;", 1, 6);
        DUE.street("dries 0;", 0, 0);
    }

    private static void tooMany() {
        String five = "line a pegs 1;line b pegs 1;line c pegs 1;line d pegs 1;line e pegs 1;";
        DUE.street(five, 0, 0);
        DUE.street(five + "line", 5, 70);
        String four = LINES + "place p under a;place q under a;place r under a;place s under a;";
        DUE.street(four, 0, 0);
        DUE.street(four + "place ", 5, 92);
        StringBuilder six = new StringBuilder();
        for (char c = 'a'; c <= 'f'; c++) {
            six.append("cloth ").append(c).append(" sock wet 1;");
        }
        DUE.street(six.toString(), 0, 0);
        DUE.street(six + "cloth;", 5, 114);
    }

    private static void laws() {
        DUE.street("dries", 1, 5);
        DUE.street("dries;", 1, 5);
        DUE.street("dries 1", 1, 7);
        DUE.street("dries 1 2;", 1, 8);
        DUE.street("dries 1;dries 1;", 3, 8);
        DUE.street("dries damp+loose-sun*clock;", 0, 0);
        DUE.street("dries a;", 1, 6);
        DUE.street("dries wet;", 1, 6);
        DUE.street("dries - 1;", 1, 6);
        DUE.street("dries 1 +;", 1, 9);
        DUE.street("dries 1 < 2 = 3;", 1, 12);
        DUE.street("dries 1 < 2 and 2 < 3 or 1 = 1;", 0, 0);
        DUE.street("dries (1 < 2) < 3;", 0, 0);
        DUE.street("dries 1 and;", 1, 11);
        DUE.street("dries and 1;", 1, 6);
        DUE.street("dries (1;", 1, 8);
        DUE.street("dries (1));", 1, 9);
        DUE.street("dries ();", 1, 7);
        DUE.street("dries 1 not 2;", 1, 8);
        DUE.street("dries not;", 1, 9);
        DUE.street("dries not not not not 1;", 0, 0);
        DUE.street("dries not not not not not 1;", 5, 26);
        DUE.street("dries not not not not not not 1;", 5, 26);
        DUE.street("dries not not not not not (1);", 5, 26);
        DUE.street("dries not not not not not ;", 1, 26);
        DUE.street("dries not not not not not wet;", 1, 26);
        DUE.street("dries not not not not not 12345;", 1, 26);
        DUE.street("dries ((((1))))+((((1))));", 0, 0);
        DUE.street("dries (((((1)))));", 5, 11);
        DUE.street("dries (((((not", 5, 11);
        DUE.street("dries ((((((", 5, 11);
        DUE.street("dries (((((", 1, 11);
        DUE.street("dries (not (not damp)) ;", 0, 0);
        DUE.street("dries (not (not (damp))) ;", 5, 17);
    }

    private static void faultLeavesAll() {
        LaundrySky sky = Due.sky(LINES + "place p under a;cloth c skirt wet 3;crosses a b;dries 2;");
        Due.type(sky, "hour;");
        sky.morning();
        sky.hang(0, 0, 1);
        sky.hour();
        sky.want(0, 1);
        sky.tell(0, 1, 1);
        sky.mark(2, false);
        int[] before = counts(sky);
        for (String text : new String[] {"line x pegs 1;line x", "cloth x sock wet 1;dries 9;?", "place"}) {
            Due.type(sky, text);
            DUE.due("a fault", sky.street() != 0, true);
            int[] after = counts(sky);
            for (int what = 0; what < before.length; what++) {
                DUE.due("count(" + what + ") behind a fault", after[what], before[what]);
            }
        }
        DUE.due("the law stays", sky.dry(0), 1);
        DUE.due("names stay", sky.line(0, 3), 2);
        DUE.due("the mark stays", sky.mark(2, true), true);
        Due.type(sky, "hour;hour");
        DUE.due("a morning's fault", sky.morning(), 1 + 16 * 9);
        DUE.due("the morning stays", sky.count(8), 1);
        DUE.due("the tape is taken", sky.count(11), 0);
    }

    private static int[] counts(LaundrySky sky) {
        int[] counts = new int[11];
        for (int what = 0; what < counts.length; what++) {
            counts[what] = sky.count(what);
        }
        return counts;
    }

    private static void streetStartsAnew() {
        LaundrySky sky = Due.sky(LINES + "place p under a;cloth c skirt wet 3;crosses a b;dries 9;");
        Due.type(sky, "hour;");
        sky.morning();
        sky.hang(0, 0, 1);
        sky.hour();
        sky.want(0, 1);
        sky.tell(0, 1, 1);
        sky.mark(2, false);
        Due.type(sky, LINES + "place p under a;cloth c skirt wet 3;");
        DUE.due("street", sky.street(), 0);
        int[] due = {2, 1, 1, 0, 0, 1, 3, 0, 0, 0, 0, 0};
        for (int what = 0; what < due.length; what++) {
            DUE.due("count(" + what + ") of the new street", sky.count(what), due[what]);
        }
        DUE.due("as wet as told", sky.cloth(0, 1), 3);
        DUE.due("on no line", sky.cloth(0, 2), -1);
        DUE.due("by no pegs", sky.cloth(0, 3), 0);
        DUE.due("no crossing is left", sky.line(0, 3), 0);
        DUE.due("nothing can be undone", sky.undo(), false);
        DUE.due("no mark", sky.mark(2, true), false);
        sky.hang(0, 0, 3);
        sky.hang(0, 1, 2);
        DUE.due("the law is the one without dries", sky.dry(0), 2);
        Due.type(sky, "dries 5;cloth c sock wet 9;line a pegs 1;");
        DUE.due("dries once in each street", sky.street(), 0);
        Due.type(sky, "dries 4;cloth c sock wet 9;line a pegs 1;");
        DUE.due("dries once in each street", sky.street(), 0);
        sky.hang(0, 0, 1);
        DUE.due("by the later law", sky.dry(0), 3);
        DUE.due("an empty street takes all away", sky.street(), 0);
        DUE.due("lines", sky.count(0) + sky.count(1) + sky.count(2), 0);
    }

    private static void mornings() {
        LaundrySky sky = Due.sky(LINES + "place p under a;cloth c skirt wet 3;cloth sun sock wet 1;");
        DUE.morning(sky, "", 0, 0);
        DUE.morning(sky, "hang c a 1;take c;wash sun;hour;", 0, 0);
        DUE.due("lines", sky.count(8), 4);
        DUE.morning(sky, "hang", 1, 4);
        DUE.morning(sky, "hang c", 1, 6);
        DUE.morning(sky, "hang c a", 1, 8);
        DUE.morning(sky, "hang c a 1", 1, 10);
        DUE.morning(sky, "hang c a 0;", 4, 9);
        DUE.morning(sky, "hang c a 3;", 0, 0);
        DUE.morning(sky, "hang c a 4;", 4, 9);
        DUE.morning(sky, "hang c a b;", 1, 9);
        DUE.morning(sky, "hang c c 1;", 2, 7);
        DUE.morning(sky, "hang c p 1;", 2, 7);
        DUE.morning(sky, "hang c hour 1;", 1, 7);
        DUE.morning(sky, "hang a a 1;", 2, 5);
        DUE.morning(sky, "hang x a 1;", 2, 5);
        DUE.morning(sky, "hang 1 a 1;", 1, 5);
        DUE.morning(sky, "take;", 1, 4);
        DUE.morning(sky, "take x;", 2, 5);
        DUE.morning(sky, "take sock;", 1, 5);
        DUE.morning(sky, "take c a;", 1, 7);
        DUE.morning(sky, "wash p;", 2, 5);
        DUE.morning(sky, "wash c", 1, 6);
        DUE.morning(sky, "hour", 1, 4);
        DUE.morning(sky, "hours;", 1, 0);
        DUE.morning(sky, "line x pegs 1;", 1, 0);
        DUE.morning(sky, "hour;;", 1, 5);
        StringBuilder forty = new StringBuilder();
        for (int i = 0; i < 40; i++) {
            forty.append("hour;");
        }
        DUE.morning(sky, forty.toString(), 0, 0);
        DUE.due("lines", sky.count(8), 40);
        DUE.morning(sky, forty + "wash", 5, 200);
        DUE.morning(sky, forty + "sock", 1, 200);
        DUE.morning(new LaundrySky(), "take c;", 2, 5);
        DUE.morning(new LaundrySky(), "hour;", 0, 0);
    }
}
