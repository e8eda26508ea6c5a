/** The edges of the law of how they dry: E, its facts and its numbers. */
public final class LawEdgesTest {
    private static final Edges EDGES = new Edges();

    public static void main(String[] args) {
        fromTheLeft();
        oneTest();
        sums();
        parts();
        within();
        damp();
        loose();
        sun();
        clock();
        oneOrNought();
        wrap();
        withoutDries();
        lessWet();
        byWhatWasAhead();
        noughtAtLeast();
        longest();
        EDGES.end("LawEdgesTest");
    }

    /** By how much a sheet of 20 that hangs by one peg is less wet behind the first hour. */
    private static void by(String law, int due) {
        LaundrySky sky = Due.sky("line a pegs 9;cloth c sheet wet 20;dries " + law + ";");
        sky.hang(0, 0, 1);
        sky.hour();
        EDGES.due("dries " + law, 20 - sky.cloth(0, 1), due);
    }

    private static void fromTheLeft() {
        EDGES.terms("E: TEST { and TEST or or TEST }, from the left");
        by("1 or 1 and 0", 0);
        by("1 or (1 and 0)", 1);
        by("0 and 0 or 1", 1);
        by("0 and (0 or 1)", 0);
        by("7", 7);
        by("7 and 7", 1);
        by("0 or 0 or 0 or 5", 1);
        by("1 and 1 and 1 and 0", 0);
        EDGES.streetEndsWith("dries 1 and ", "or 1;", 1);
        EDGES.streetEndsWith("dries 1 and", ";", 1);
        EDGES.streetEndsWith("dries ", "or 1;", 1);
    }

    private static void oneTest() {
        EDGES.terms("TEST: SUM, or SUM < SUM, or SUM = SUM");
        by("1 < 2", 1);
        by("2 < 2", 0);
        by("3 < 2", 0);
        by("0 - 1 < 0", 1);
        by("2 = 2", 1);
        by("2 = 1", 0);
        by("1 + 1 = 2 and 2 < 1 + 2", 1);
        EDGES.streetEndsWith("dries 1 < 2 ", "< 3;", 1);
        EDGES.streetEndsWith("dries 1 < 2 ", "= 3;", 1);
        EDGES.streetEndsWith("dries 1 = 2 ", "= 3;", 1);
        EDGES.streetEndsWith("dries 1 = 2 ", "< 3;", 1);
        EDGES.streetEndsWith("dries 1 <", "= 3;", 1);
        EDGES.streetEndsWith("dries ", "< 3;", 1);
        EDGES.streetEndsWith("dries 3 =", ";", 1);
    }

    private static void sums() {
        EDGES.terms("SUM: PRODUCT { + or - PRODUCT }; PRODUCT: PART { * PART }");
        by("9 - 3 - 2", 4);
        by("9 - (3 - 2)", 8);
        by("1 + 2 * 3", 7);
        by("2 * 3 + 1", 7);
        by("2 * 2 * 2", 8);
        by("8 - 2 * 2 + 1", 5);
        by("0 - 5 + 9", 4);
        EDGES.streetEndsWith("dries ", "- 1;", 1);
        EDGES.streetEndsWith("dries ", "+ 1;", 1);
        EDGES.streetEndsWith("dries ", "* 1;", 1);
        EDGES.streetEndsWith("dries 1 *", ";", 1);
        EDGES.streetEndsWith("dries 1 + ", "- 1;", 1);
        EDGES.streetEndsWith("dries 1 * ", "* 1;", 1);
    }

    private static void parts() {
        EDGES.terms("PART: a NUMBER, a fact, not PART, ( E )");
        by("not 0", 1);
        by("not 0 + 1", 2);
        by("not 5 * 9 + 3", 3);
        by("not (5 * 0) * 3", 3);
        by("not 1 = 0", 1);
        by("(1 or 0) + 1", 2);
        by("(1 < 2) * 5", 5);
        EDGES.streetEndsWith("dries (", ");", 1);
        EDGES.streetEndsWith("dries ", ")", 1);
        EDGES.streetEndsWith("dries (1", ";", 1);
        EDGES.streetEndsWith("dries (1)", ")", 1);
        EDGES.streetEndsWith("dries not", ";", 1);
        EDGES.streetEndsWith("dries 1 ", "not 1;", 1);
        EDGES.streetEndsWith("dries 1 ", "(1);", 1);
        EDGES.streetEndsWith("dries 1 ", "damp;", 1);
        EDGES.streetEndsWith("dries ", "x;", 1);
        EDGES.streetEndsWith("line x pegs 1;dries ", "x;", 1);
        EDGES.streetEndsWith("dries ", "hour;", 1);
    }

    private static void within() {
        EDGES.terms("no PART lies within 5 of not and ( )");
        by("not not not not 7", 1);
        by("((((7))))", 7);
        by("(not (not 7))", 1);
        by("not ((not 7))", 1);
        EDGES.streetEndsWith("dries not not not not not ", "7;", 5);
        EDGES.streetEndsWith("dries (((((", "7)))));", 5);
        EDGES.streetEndsWith("dries (not (not (", "7)));", 5);
        EDGES.streetEndsWith("dries not ((not (", "7)));", 5);
        EDGES.streetEndsWith("dries not not not not not ", "not 7;", 5);
        // what is closed again does not count
        by("((((1)))) + ((((1)))) * not not not not 1", 2);
        by("(((1)) + ((1)))", 2);
        by("not not not not 0 + not not not not 3", 1);
        EDGES.streetEndsWith("dries ((((1)))) + (((((", "1)))));", 5);
        EDGES.streetEndsWith("dries 1 < 1 and not not not not not ", "1;", 5);
    }

    private static void damp() {
        EDGES.terms("damp (how wet it is)");
        by("damp - 19", 1);
        by("damp = 20", 1);
        LaundrySky sky = Due.sky("line a pegs 9;cloth c sheet wet 6;cloth d sheet wet 1;dries damp = 1 or damp = 6;");
        sky.hang(0, 0, 1);
        sky.hang(1, 0, 1);
        sky.hour();
        EDGES.due("6 is less wet", sky.cloth(0, 1), 5);
        EDGES.due("each by its own", sky.cloth(1, 1), 0);
        sky.hour();
        EDGES.due("5 is not", sky.cloth(0, 1), 5);
    }

    private static void loose() {
        EDGES.terms("loose (3 less its pegs)");
        for (int pegs = 1; pegs <= 3; pegs++) {
            LaundrySky sky = Due.sky("line a pegs 9;cloth c sheet wet 20;dries loose;");
            sky.hang(0, 0, pegs);
            sky.hour();
            EDGES.due("by " + pegs, 20 - sky.cloth(0, 1), 3 - pegs);
        }
    }

    private static void sun() {
        EDGES.terms("sun (shirts that are WET and hang anywhere)");
        LaundrySky sky = Due.sky("line a pegs 9;line b pegs 9;cloth c sheet wet 20;cloth d shirt wet 2;"
            + "cloth e shirt wet 4;cloth f shirt wet 20;cloth g skirt wet 20;dries sun;");
        sky.hang(0, 0, 1);
        sky.hang(4, 0, 1);
        sky.hour();
        EDGES.due("shirts that lie are none", sky.cloth(0, 1), 20);
        sky.hang(1, 1, 1);
        sky.hour();
        EDGES.due("one, on another line", sky.cloth(0, 1), 19);
        EDGES.due("a shirt counts itself", sky.cloth(1, 1), 1);
        sky.hang(2, 0, 3);
        sky.hour();
        EDGES.due("two", sky.cloth(0, 1), 17);
        EDGES.due("dry now", sky.cloth(1, 1), 0);
        sky.hour();
        EDGES.due("a dry one is none", sky.cloth(0, 1), 16);
        sky.take(2);
        sky.hour();
        EDGES.due("none", sky.cloth(0, 1), 16);
    }

    private static void clock() {
        EDGES.terms("clock (the hour)");
        LaundrySky sky = Due.sky("line a pegs 9;cloth c sheet wet 20;dries clock;");
        sky.hang(0, 0, 1);
        int[] wet = {20, 19, 17, 14, 10, 5, 0};
        for (int hour = 0; hour < wet.length; hour++) {
            sky.hour();
            EDGES.due("behind the hour " + hour, sky.cloth(0, 1), wet[hour]);
        }
    }

    private static void oneOrNought() {
        EDGES.terms("Of not, and, or, < and = comes 1 or 0; what is not 0 is so");
        by("not 9", 0);
        by("not (0 - 1)", 0);
        by("not 0", 1);
        by("9 and 9", 1);
        by("0 - 1 and 5", 1);
        by("5 and 0", 0);
        by("0 and 5", 0);
        by("9 or 0", 1);
        by("0 or 9", 1);
        by("9 or 9", 1);
        by("0 or 0 - 1", 1);
        by("3 < 9", 1);
        by("9 = 9", 1);
        by("(3 < 9) + (9 = 9) + not 0 + (5 and 5) + (5 or 5)", 5);
    }

    private static void wrap() {
        EDGES.terms("ints wrap");
        // 9999 * 9999 is 99980001; 21 times that is 2099580021, 22 times 2199560022, beyond 2147483647
        by("9999 * 9999 * 21", 9);
        by("9999 * 9999 * 22", 0);
        by("9999 * 9999 * 22 < 0", 1);
        by("9999 * 9999 * 43 - 9999 * 417 - 3161", 3);
        by("0 - 9999 * 9999 * 22", 9);
        // 2147483647 and one more
        by("9999 * 9999 * 21 + 9999 * 4790 + 8416", 9);
        by("9999 * 9999 * 21 + 9999 * 4790 + 8416 + 1 < 0", 1);
        by("9999 * 9999 * 21 + 9999 * 4790 + 8416 + 1 - 1 < 0", 0);
        by("256 * 256 * 256 * 256 + 3", 3);
        by("256 * 256 * 256 * 256", 0);
    }

    private static void withoutDries() {
        EDGES.terms("Without dries: 1 + loose.");
        LaundrySky sky = Due.sky("line a pegs 9;cloth c sheet wet 20;cloth d sheet wet 20;cloth e sheet wet 20;");
        for (int cloth = 0; cloth < 3; cloth++) {
            sky.hang(cloth, 0, cloth + 1);
        }
        sky.hour();
        EDGES.due("by one peg", sky.cloth(0, 1), 17);
        EDGES.due("by two", sky.cloth(1, 1), 18);
        EDGES.due("by three", sky.cloth(2, 1), 19);
        LaundrySky elder = Due.sky("dries 9;");
        Due.type(elder, "line a pegs 9;cloth c sheet wet 20;");
        elder.street();
        elder.hang(0, 0, 3);
        elder.hour();
        EDGES.due("an elder street's law is gone", elder.cloth(0, 1), 19);
        Due.type(elder, "dries 5;?");
        elder.street();
        elder.hour();
        EDGES.due("one with a fault brings none", elder.cloth(0, 1), 18);
        LaundrySky laws = new LaundrySky();
        String[] each = {"not 5", "5", "2 + 2 * not 0", "3", "1 + 1", "0", "4"};
        int[] by = {0, 5, 4, 3, 2, 0, 4};
        for (int i = 0; i < each.length; i++) {
            Due.type(laws, "line a pegs 9;cloth c sheet wet 20;dries " + each[i] + ";");
            laws.street();
            laws.hang(0, 0, 1);
            laws.hour();
            EDGES.due("nothing of an elder law is left in " + each[i], 20 - laws.cloth(0, 1), by[i]);
        }
    }

    private static void lessWet() {
        EDGES.terms("each that hangs is less wet by the E of dries (0 to 9");
        by("0", 0);
        by("1", 1);
        by("8", 8);
        by("9", 9);
        by("10", 9);
        by("9999", 9);
        by("0 - 1", 0);
        by("0 - 9999", 0);
        LaundrySky sky = Due.sky("line a pegs 9;cloth c sheet wet 20;cloth d sheet wet 20;dries 2;");
        sky.hang(0, 0, 1);
        sky.hour();
        EDGES.due("it hangs", sky.cloth(0, 1), 18);
        EDGES.due("it does not", sky.cloth(1, 1), 20);
    }

    private static void byWhatWasAhead() {
        EDGES.terms("all by what was ahead");
        for (String cloths : new String[] {"cloth s shirt wet 1;cloth t sheet wet 20;",
            "cloth t sheet wet 20;cloth s shirt wet 1;"}) {
            LaundrySky sky = Due.sky("line a pegs 9;" + cloths + "dries sun;");
            sky.hang(0, 0, 1);
            sky.hang(1, 0, 1);
            sky.hour();
            EDGES.due("the shirt that dries by it shone on all: " + cloths, sky.cloth(0, 1) + sky.cloth(1, 1), 19);
            sky.hour();
            EDGES.due("and does not then", sky.cloth(0, 1) + sky.cloth(1, 1), 19);
        }
        by("clock", 0);
    }

    private static void noughtAtLeast() {
        EDGES.terms("0 at least");
        LaundrySky sky = Due.sky("line a pegs 9;cloth c sheet wet 9;cloth d sheet wet 8;cloth e sheet wet 10;dries 9;");
        for (int cloth = 0; cloth < 3; cloth++) {
            sky.hang(cloth, 0, 1);
        }
        EDGES.due("two are dry by it", sky.hour(), 3);
        EDGES.due("9 less 9", sky.cloth(0, 1), 0);
        EDGES.due("8 less 9", sky.cloth(1, 1), 0);
        EDGES.due("10 less 9", sky.cloth(2, 1), 1);
        sky.hour();
        EDGES.due("0 less 9", sky.cloth(0, 1), 0);
    }

    /** Laws as long as the tape, and of as many operands left open as can be. */
    private static void longest() {
        EDGES.terms("{ + or - PRODUCT }");
        String street = "line a pegs 9;cloth c sheet wet 20;dries 5";
        LaundrySky sky = Due.sky(street + "+1-1".repeat((999 - street.length()) / 4) + ";");
        sky.hang(0, 0, 1);
        sky.hour();
        EDGES.due("a long one", sky.cloth(0, 1), 15);
        String open = "0 or 1 = 0 + 1 * ";
        by((open + "(").repeat(4) + open + "1" + ")".repeat(4), 1);
        by((open + "(").repeat(4) + open + "2" + ")".repeat(4), 0);
        by(open + "(" + open + "not not not 0)", 1);
    }
}
