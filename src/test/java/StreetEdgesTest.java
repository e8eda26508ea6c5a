/** The edges of what is told: streets, mornings, names and their faults. */
public final class StreetEdgesTest {
    private static final Edges EDGES = new Edges();
    private static final String FIVE = "line a pegs 1;line b pegs 2;line c pegs 3;line d pegs 4;line e pegs 5;";
    private static final String TWO = "line a pegs 1;line b pegs 2;";
    private static final String[] KEPT = {"line", "pegs", "place", "under", "cloth", "wet", "crosses", "dries", "hang",
        "take", "wash", "hour", "sheet", "shirt", "skirt", "sock", "not", "and", "or"};

    public static void main(String[] args) {
        anyNumber();
        lines();
        pegs();
        places();
        under();
        cloths();
        kinds();
        wet();
        crosses();
        dries();
        mornings();
        byPegs();
        mostRows();
        names();
        alike();
        placeOfFaults();
        firstAndLeast();
        cannotStand();
        noSuchName();
        toldAlready();
        wrongNumber();
        tooMany();
        startsAnew();
        theMorning();
        atFirst();
        EDGES.end("StreetEdgesTest");
    }

    private static void anyNumber() {
        EDGES.terms("STREET: any number of");
        EDGES.street("", 0, 0);
        EDGES.street(" ", 0, 0);
        EDGES.street("\n", 0, 0);
        LaundrySky sky = Due.sky("dries 1;cloth x sock wet 1;" + TWO + "crosses b a;place p under b;cloth y sock wet 1;");
        EDGES.due("in any order", sky.count(0) + 10 * sky.count(1) + 100 * sky.count(2), 212);
        EDGES.due("none at all takes all away", sky.street(), 0);
        EDGES.due("none", sky.count(0) + sky.count(1) + sky.count(2), 0);
    }

    private static void lines() {
        EDGES.terms("line: 5 at most, numbered as told");
        LaundrySky sky = Due.sky(FIVE);
        EDGES.due("five", sky.count(0), 5);
        for (int line = 0; line < 5; line++) {
            EDGES.due("pegs of line " + line, sky.line(line, 0), line + 1);
        }
        EDGES.streetEndsWith(FIVE, "line f pegs 1;", 5);
        EDGES.streetEndsWith(FIVE + "dries 1;", "line", 5);
    }

    private static void pegs() {
        EDGES.terms("pegs 1 to 9");
        EDGES.due("1", Due.sky("line a pegs 1;").line(0, 0), 1);
        EDGES.due("9", Due.sky("line a pegs 9;").line(0, 0), 9);
        EDGES.streetEndsWith("line a pegs ", "0", 4);
        EDGES.streetEndsWith("line a pegs ", "10", 4);
        EDGES.streetEndsWith("line a pegs ", "9999", 4);
        EDGES.streetEndsWith("line a pegs ", "0000", 4);
        EDGES.streetEndsWith("line a pegs ", "-1", 1);
    }

    private static void places() {
        EDGES.terms("place: 4 at most, numbered as told");
        String four = FIVE + "place p under a;place q under b;place r under c;place s under d;";
        LaundrySky sky = Due.sky(four);
        EDGES.due("four", sky.count(1), 4);
        for (int place = 0; place < 4; place++) {
            EDGES.due("above place " + place, sky.place(place, 3), 1 << place);
        }
        EDGES.streetEndsWith(four, "place t under e;", 5);
        EDGES.streetEndsWith(four, "place", 5);
    }

    private static void under() {
        EDGES.terms("under 1 to 5 LINES told, each once");
        EDGES.streetEndsWith(FIVE + "place p under ", ";", 1);
        EDGES.streetEndsWith(FIVE + "place p under ", "", 1);
        EDGES.due("one", Due.sky(FIVE + "place p under e;").place(0, 3), 16);
        EDGES.due("five", Due.sky(FIVE + "place p under c a e b d;").place(0, 3), 31);
        for (String line : new String[] {"a", "b", "c", "d", "e"}) {
            EDGES.streetEndsWith(FIVE + "place p under c a e b d ", line, 3);
            EDGES.streetEndsWith(FIVE + "place p under " + line + " ", line, 3);
        }
        EDGES.streetEndsWith(FIVE + "place p under c a e b d ", "f", 2);
        EDGES.streetEndsWith(TWO + "place p under a ", "c;line c pegs 1;", 2);
        EDGES.due("each once in each place",
            Due.sky(FIVE + "place p under a b;place q under b a;").place(1, 3), 3);
    }

    private static void cloths() {
        EDGES.terms("cloth: 6 at most, numbered as told");
        StringBuilder six = new StringBuilder();
        for (int i = 0; i < 6; i++) {
            six.append("cloth ").append((char) ('u' + i)).append(" sock wet ").append(i + 1).append(';');
        }
        LaundrySky sky = Due.sky(six.toString());
        EDGES.due("six", sky.count(2), 6);
        for (int cloth = 0; cloth < 6; cloth++) {
            EDGES.due("wet of cloth " + cloth, sky.cloth(cloth, 4), cloth + 1);
        }
        EDGES.streetEndsWith(six.toString(), "cloth a sock wet 1;", 5);
        EDGES.streetEndsWith(six.toString(), "cloth", 5);
    }

    private static void kinds() {
        EDGES.terms("KIND: sheet, shirt, skirt, sock");
        String[] kinds = {"sheet", "shirt", "skirt", "sock"};
        for (int kind = 0; kind < 4; kind++) {
            EDGES.due(kinds[kind], Due.sky("cloth c " + kinds[kind] + " wet 1;").cloth(0, 0), kind);
        }
        for (String other : new String[] {"hat", "sheets", "shir", "skir", "c", "line", "damp", "1", ";", "wet 1;"}) {
            EDGES.streetEndsWith("cloth c ", other, 1);
        }
    }

    private static void wet() {
        EDGES.terms("wet 1 to 20");
        EDGES.due("1", Due.sky("cloth c sock wet 1;").cloth(0, 1), 1);
        EDGES.due("20", Due.sky("cloth c sock wet 20;").cloth(0, 1), 20);
        EDGES.streetEndsWith("cloth c sock wet ", "0", 4);
        EDGES.streetEndsWith("cloth c sock wet ", "21", 4);
        EDGES.streetEndsWith("cloth c sock wet ", "9999", 4);
    }

    private static void crosses() {
        EDGES.terms("crosses: two LINES told, not the same, each pair once");
        StringBuilder all = new StringBuilder(FIVE);
        for (char a = 'a'; a <= 'e'; a++) {
            for (char b = 'a'; b < a; b++) {
                all.append("crosses ").append(a).append(' ').append(b).append(';');
            }
        }
        LaundrySky sky = Due.sky(all.toString());
        for (int line = 0; line < 5; line++) {
            EDGES.due("all ten pairs, line " + line, sky.line(line, 3), 31 & ~(1 << line));
        }
        for (char a = 'a'; a <= 'e'; a++) {
            for (char b = 'a'; b <= 'e'; b++) {
                EDGES.streetEndsWith(all + "crosses " + a + " ", "" + b, 3);
            }
            EDGES.streetEndsWith(FIVE + "crosses " + a + " ", "" + a, 3);
        }
        EDGES.due("no pair", Due.sky(FIVE).line(0, 3), 0);
        EDGES.streetEndsWith(FIVE + "crosses a", ";", 1);
        EDGES.streetEndsWith(FIVE + "crosses ", ";", 1);
        EDGES.streetEndsWith(FIVE + "crosses a b ", "c;", 1);
        EDGES.streetEndsWith(TWO + "crosses ", "c a;", 2);
        EDGES.streetEndsWith(TWO + "crosses a ", "c;line c pegs 1;", 2);
    }

    private static void dries() {
        EDGES.terms("dries: once.");
        EDGES.street("dries 1;", 0, 0);
        EDGES.streetEndsWith("dries 1;", "dries 1;", 3);
        EDGES.streetEndsWith("dries 1;" + TWO, "dries", 3);
        LaundrySky sky = Due.sky("dries 1;");
        Due.type(sky, "dries 2;");
        EDGES.due("once more in another street", sky.street(), 0);
        Due.type(sky, "dries 2;line");
        EDGES.due("a fault", sky.street(), 1 + 16 * 12);
        Due.type(sky, "dries 3;");
        EDGES.due("and behind one with a fault", sky.street(), 0);
    }

    private static LaundrySky small() {
        return Due.sky(TWO + "place p under a;cloth x sock wet 1;cloth y sheet wet 20;");
    }

    private static void mornings() {
        EDGES.terms("MORNING: any number of");
        LaundrySky sky = small();
        EDGES.morning(sky, "", 0, 0);
        EDGES.due("no lines", sky.count(8), 0);
        EDGES.morning(sky, "hour;", 0, 0);
        EDGES.due("one line", sky.count(8), 1);
        EDGES.morning(sky, " \n ", 0, 0);
        EDGES.due("none again", sky.count(8), 0);
        EDGES.morning(new LaundrySky(), "hour;", 0, 0);
    }

    private static void byPegs() {
        EDGES.terms("(a CLOTH on a LINE by 1 to 3 pegs; a CLOTH)");
        LaundrySky sky = small();
        EDGES.morning(sky, "hang x a 1;hang x b 3;take x;wash y;", 0, 0);
        EDGES.morningEndsWith(sky, "hang x a ", "0", 4);
        EDGES.morningEndsWith(sky, "hang x a ", "4", 4);
        EDGES.morningEndsWith(sky, "hang x a ", "9999", 4);
        EDGES.morningEndsWith(sky, "hang x a", ";", 1);
        EDGES.morningEndsWith(sky, "hang ", "a x 1;", 2);
        EDGES.morningEndsWith(sky, "hang x ", "y 1;", 2);
        EDGES.morningEndsWith(sky, "take x ", "a;", 1);
        EDGES.morningEndsWith(sky, "wash x ", "1;", 1);
        EDGES.morningEndsWith(sky, "hour ", "x;", 1);
    }

    private static void mostRows() {
        EDGES.terms("40 lines at most");
        LaundrySky sky = small();
        EDGES.morning(sky, "hour;".repeat(39), 0, 0);
        EDGES.due("39", sky.count(8), 39);
        EDGES.morning(sky, "hour;".repeat(40), 0, 0);
        EDGES.due("40", sky.count(8), 40);
        for (String first : new String[] {"hour", "hang", "take", "wash", "hour;"}) {
            EDGES.morningEndsWith(sky, "hour;".repeat(40), first, 5);
        }
        EDGES.morningEndsWith(sky, "hour;".repeat(40), "line", 1);
        EDGES.morningEndsWith(sky, "hour;".repeat(40), "boil", 1);
        EDGES.morningEndsWith(sky, "take x;wash x;hang x a 1;hour;".repeat(10), "take x;", 5);
        EDGES.due("the one of 40 stays", sky.count(8), 40);
    }

    private static void names() {
        EDGES.terms("A NAME is another WORD than line, pegs, place, under, cloth, wet, crosses, dries, hang, take, wash, "
            + "hour, the KINDS, not, and, or");
        LaundrySky sky = small();
        for (String word : KEPT) {
            EDGES.streetEndsWith("line ", word, 1);
            EDGES.streetEndsWith(TWO + "place ", word, 1);
            EDGES.streetEndsWith("cloth ", word, 1);
            EDGES.streetEndsWith(TWO + "place p under ", word, 1);
            EDGES.streetEndsWith(TWO + "place p under a ", word, 1);
            EDGES.streetEndsWith(TWO + "crosses ", word, 1);
            EDGES.streetEndsWith(TWO + "crosses a ", word, 1);
            EDGES.morningEndsWith(sky, "hang ", word, 1);
            EDGES.morningEndsWith(sky, "hang x ", word, 1);
            EDGES.morningEndsWith(sky, "take ", word, 1);
            EDGES.morningEndsWith(sky, "wash ", word, 1);
            EDGES.street("line " + word + "x pegs 1;line x" + word.substring(1) + " pegs 1;", 0, 0);
        }
        for (String word : new String[] {"damp", "loose", "sun", "clock", "street", "morning", "kind", "name", "e"}) {
            EDGES.street("line " + word + " pegs 1;place p under " + word + ";cloth c sock wet 1;dries sun;", 0, 0);
            EDGES.street("cloth " + word + " sock wet 1;", 0, 0);
            EDGES.street(TWO + "place " + word + " under a;", 0, 0);
        }
    }

    private static void alike() {
        EDGES.terms("no two (LINES, PLACES, CLOTHS) are alike");
        String each = "line l pegs 1;place p under l;cloth c sock wet 1;";
        for (String name : new String[] {"l", "p", "c"}) {
            EDGES.streetEndsWith(each + "line ", name, 3);
            EDGES.streetEndsWith(each + "place ", name, 3);
            EDGES.streetEndsWith(each + "cloth ", name, 3);
        }
        LaundrySky sky = Due.sky(each);
        Due.type(sky, each);
        EDGES.due("as in the elder street they may be", sky.street(), 0);
    }

    private static void placeOfFaults() {
        EDGES.terms("kind + 16 * the place (from 0) of a token, the end being one at the text's length");
        EDGES.street("?", 1, 0);
        EDGES.street("   ?", 1, 3);
        EDGES.street("line", 1, 4);
        EDGES.street("line   ", 1, 7);
        EDGES.street("line a pegs 1\n", 1, 14);
        EDGES.street(" ".repeat(999) + "?", 1, 999);
        EDGES.street("line" + " ".repeat(996), 1, 1000);
        EDGES.morning(small(), "hour ", 1, 5);
        EDGES.morning(small(), "", 0, 0);
    }

    private static void firstAndLeast() {
        EDGES.terms("of the first token from the left that is wrong the least");
        EDGES.street("line a pegs 0 ? ?", 4, 12);
        EDGES.street("line a pegs 1;line a pegs 0;", 3, 19);
        EDGES.street("line a pegs 1;place p under b b;", 2, 28);
        EDGES.street("crosses a b;", 2, 8);
        EDGES.street(TWO + "crosses a a ?", 3, 38);
        EDGES.street("dries 1 1;dries 1;", 1, 8);
        // it can't stand there, though it is one too many as well
        EDGES.street("dries not not not not not ;", 1, 26);
        EDGES.street("dries not not not not not and", 1, 26);
        EDGES.street("dries not not not not not 12345;", 1, 26);
        EDGES.street(FIVE + "lines", 1, 70);
        EDGES.morning(small(), "hour;".repeat(40) + "hours", 1, 200);
        EDGES.morning(small(), "hang x c 0;", 2, 7);
        // no NAME, though it would be told already
        EDGES.street("line a pegs 1;place line under a;", 1, 20);
    }

    private static void cannotStand() {
        EDGES.terms("1 it is none, or can't stand there");
        String[] whole = {"line a pegs 1;", "line a pegs 1;place p under a;", "cloth c sock wet 1;",
            TWO + "crosses a b;", "dries 1;"};
        for (String text : whole) {
            for (int cut = text.length() - 1; cut > 0 && text.charAt(cut - 1) != ';'; cut--) {
                if (" ;".indexOf(text.charAt(cut)) >= 0) {
                    EDGES.streetEndsWith(text.substring(0, cut), "", 1);
                    EDGES.streetEndsWith(text.substring(0, cut), "?", 1);
                    EDGES.streetEndsWith(text.substring(0, cut), ")", 1);
                }
            }
            EDGES.streetEndsWith(text, ";", 1);
            EDGES.streetEndsWith(text, "1", 1);
            EDGES.streetEndsWith(text, "x", 1);
        }
        for (String word : new String[] {"pegs", "under", "wet", "hang", "take", "wash", "hour", "sheet", "not", "and"}) {
            EDGES.streetEndsWith("", word, 1);
        }
        for (String word : new String[] {"line", "place", "cloth", "crosses", "dries", "sock", "pegs", ";", "1", "x"}) {
            EDGES.morningEndsWith(small(), "hour;", word, 1);
        }
    }

    private static void noSuchName() {
        EDGES.terms("2 a NAME of no LINE (behind under, crosses, its second, the second of hang), of no CLOTH (behind "
            + "hang, take, wash) told");
        String each = TWO + "place p under a;cloth c sock wet 1;";
        for (String name : new String[] {"p", "c", "x", "sun", "q"}) {
            EDGES.streetEndsWith(each + "place q under ", name, 2);
            EDGES.streetEndsWith(each + "place q under a ", name, 2);
            EDGES.streetEndsWith(each + "crosses ", name, 2);
            EDGES.streetEndsWith(each + "crosses a ", name, 2);
        }
        LaundrySky sky = Due.sky(each);
        for (String name : new String[] {"p", "c", "x"}) {
            EDGES.morningEndsWith(sky, "hang c ", name, 2);
        }
        for (String name : new String[] {"p", "a", "x"}) {
            EDGES.morningEndsWith(sky, "hang ", name, 2);
            EDGES.morningEndsWith(sky, "take ", name, 2);
            EDGES.morningEndsWith(sky, "wash ", name, 2);
        }
        EDGES.morningEndsWith(new LaundrySky(), "wash ", "c", 2);
        Due.type(sky, "line a pegs 1;cloth d sock wet 1;");
        sky.street();
        EDGES.morningEndsWith(sky, "hang ", "c a 1;", 2);
        EDGES.morningEndsWith(sky, "hang d ", "b 1;", 2);
    }

    private static void toldAlready() {
        EDGES.terms("3 a NAME told already; a LINE of under that stands there; the second one of crosses that is the "
            + "first one, or of a pair told; dries a second time");
        EDGES.streetEndsWith("line a pegs 1;line ", "a", 3);
        EDGES.streetEndsWith(TWO + "place p under a b ", "a", 3);
        EDGES.streetEndsWith(TWO + "place p under a b ", "b", 3);
        EDGES.streetEndsWith(TWO + "crosses a ", "a", 3);
        EDGES.streetEndsWith(TWO + "crosses b ", "b", 3);
        EDGES.streetEndsWith(TWO + "crosses a b;crosses a ", "b", 3);
        EDGES.streetEndsWith(TWO + "crosses a b;crosses b ", "a", 3);
        EDGES.streetEndsWith("dries 1;", "dries", 3);
        // a NAME that is told by the very line counts from its end on
        EDGES.streetEndsWith("line a pegs 1;place b under ", "b", 2);
    }

    private static void wrongNumber() {
        EDGES.terms("4 a NUMBER that is not as told");
        EDGES.streetEndsWith("line a pegs ", "0;", 4);
        EDGES.streetEndsWith("line a pegs ", "10;", 4);
        EDGES.streetEndsWith("cloth c sock wet ", "0;", 4);
        EDGES.streetEndsWith("cloth c sock wet ", "21;", 4);
        EDGES.morningEndsWith(small(), "hang x a ", "0;", 4);
        EDGES.morningEndsWith(small(), "hang x a ", "4;", 4);
        EDGES.street("dries 0;", 0, 0);
        EDGES.street("dries 9999;", 0, 0);
    }

    private static void tooMany() {
        EDGES.terms("5 one too many: the words line of a sixth, place of a fifth, cloth of a seventh, the first word of a "
            + "41st line of a MORNING; not, or a PART, within 5 others");
        EDGES.streetEndsWith(FIVE, "line ?", 5);
        String four = TWO + "place p under a;place q under a;place r under a;place s under a;";
        EDGES.streetEndsWith(four, "place ?", 5);
        String six = "cloth m sock wet 1;cloth n sock wet 1;cloth o sock wet 1;cloth p sock wet 1;cloth q sock wet 1;"
            + "cloth r sock wet 1;";
        EDGES.streetEndsWith(six, "cloth ?", 5);
        EDGES.morningEndsWith(small(), "hour;".repeat(40), "hang ?", 5);
        for (String part : new String[] {"not", "(", "1", "damp", "loose", "sun", "clock"}) {
            EDGES.streetEndsWith("dries not not not not not ", part, 5);
            EDGES.streetEndsWith("dries (((((", part, 5);
            EDGES.streetEndsWith("dries (not (not (", part, 5);
            EDGES.streetEndsWith("dries ((((1+(", part, 5);
        }
    }

    private static void startsAnew() {
        EDGES.terms("Without a FAULT a STREET is the STREET from then on: hour 0, nothing hangs, all as wet as told, no "
            + "MORNING, nothing WANTED, nothing TOLD, nothing can be undone, no MARK is there.");
        String street = TWO + "place p under a b;cloth x sock wet 5;cloth y skirt wet 9;";
        String fresh = Edges.all(Due.sky(street));
        LaundrySky sky = Due.sky(street);
        Due.type(sky, "hour;hour;");
        sky.morning();
        sky.hang(0, 0, 1);
        sky.hang(1, 1, 2);
        sky.hour();
        sky.want(0, 1);
        sky.tell(0, 1, 1);
        for (int mark = 0; mark < 4; mark++) {
            sky.mark(mark, false);
        }
        Due.type(sky, street);
        EDGES.due("the same street again", sky.street(), 0);
        EDGES.stays("as on a new object", sky, fresh);
        EDGES.due("nothing can be undone", sky.undo(), false);
        for (int mark = 0; mark < 4; mark++) {
            EDGES.due("mark " + mark, sky.mark(mark, true), false);
        }
        EDGES.stays("as on a new object", sky, fresh);
        // an elder one with more of all, and one with a fault, leave nothing behind
        Due.type(sky, FIVE + "crosses a b;crosses b c;crosses c d;crosses d e;crosses e a;place p under a b c d e;"
            + "place q under a;place r under b;place s under c;cloth m skirt wet 20;cloth n skirt wet 20;"
            + "cloth o skirt wet 20;cloth t skirt wet 20;cloth u skirt wet 20;cloth v skirt wet 20;dries 9;");
        EDGES.due("a greater street", sky.street(), 0);
        for (int cloth = 0; cloth < 5; cloth++) {
            sky.hang(cloth, cloth, 1);
        }
        Due.type(sky, FIVE + "crosses a b;crosses c a;dries 5;?");
        EDGES.due("a fault", sky.street() > 0, true);
        Due.type(sky, street);
        EDGES.due("the first street again", sky.street(), 0);
        EDGES.stays("as on a new object", sky, fresh);
    }

    private static void theMorning() {
        EDGES.terms("A MORNING is the MORNING.");
        LaundrySky sky = small();
        sky.hang(0, 0, 1);
        sky.hour();
        sky.want(0, 1);
        String before = Edges.all(sky);
        EDGES.morning(sky, "hang y b 2;hour;take x;", 0, 0);
        EDGES.due("three lines", sky.count(8), 3);
        EDGES.due("the third can't be", sky.judged(0), 2);
        EDGES.morning(sky, "take y;", 0, 0);
        EDGES.due("the later one alone", sky.count(8), 1);
        EDGES.due("its first can't be", sky.judged(0), 0);
        EDGES.morning(sky, "hour;?", 1, 5);
        EDGES.due("a fault leaves it", sky.count(8), 1);
        EDGES.due("a fault leaves it", sky.judged(0), 0);
        EDGES.morning(sky, "", 0, 0);
        EDGES.stays("and nothing else was changed by any", sky, before);
    }

    private static void atFirst() {
        EDGES.terms("At first: nothing.");
        LaundrySky sky = new LaundrySky();
        for (int what = 0; what <= 11; what++) {
            EDGES.due("count(" + what + ")", sky.count(what), 0);
        }
        EDGES.morningEndsWith(sky, "take ", "c", 2);
        EDGES.due("no street is there", sky.line(0, 0), -1);
        EDGES.due("no place", sky.place(0, 0), -2);
        EDGES.due("no cloth", sky.cloth(0, 0), -2);
        EDGES.due("no morning", sky.judged(0), -1);
        EDGES.due("nothing to undo", sky.undo(), false);
        EDGES.due("no mark", sky.mark(0, true) || sky.mark(1, true) || sky.mark(2, true) || sky.mark(3, true), false);
    }
}
