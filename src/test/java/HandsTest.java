/** Promises 5 to 13, 33 and 34: what is there, mornings by hand and told ones, undo, marks, counts. */
public final class HandsTest {
    private static final Due DUE = new Due();
    private static final String STREET = "line a pegs 4;line b pegs 2;line c pegs 1;"
        + "place p under a;place q under a b;place r under c;"
        + "cloth sa sheet wet 4;cloth ba shirt wet 5;cloth ra skirt wet 6;cloth so sock wet 1;cloth bb shirt wet 20;"
        + "crosses a b;crosses c b;";

    public static void main(String[] args) {
        lines();
        cloths();
        places();
        equalKinds();
        hanging();
        taking();
        washing();
        hours();
        laws();
        undoing();
        marks();
        judging();
        counts();
        DUE.end("HandsTest");
    }

    private static void lines() {
        LaundrySky sky = Due.sky(STREET);
        sky.hang(0, 0, 3);
        sky.hang(4, 0, 1);
        sky.hang(2, 1, 1);
        int[][] due = {{4, 0, 17, 2}, {2, 1, 4, 5}, {1, 1, 0, 2}};
        for (int line = 0; line < 3; line++) {
            for (int what = 0; what < 4; what++) {
                DUE.due("line(" + line + ", " + what + ")", sky.line(line, what), due[line][what]);
            }
        }
        DUE.due("line(0, 4)", sky.line(0, 4), -1);
        DUE.due("line(0, -1)", sky.line(0, -1), -1);
        DUE.due("line(3, 0)", sky.line(3, 0), -1);
        DUE.due("line(-1, 0)", sky.line(-1, 0), -1);
        DUE.due("line(max, 0)", sky.line(Integer.MAX_VALUE, 0), -1);
    }

    private static void cloths() {
        LaundrySky sky = Due.sky(STREET);
        int[] kinds = {0, 1, 2, 3, 1};
        int[] wet = {4, 5, 6, 1, 20};
        for (int cloth = 0; cloth < 5; cloth++) {
            DUE.due("kind", sky.cloth(cloth, 0), kinds[cloth]);
            DUE.due("wet", sky.cloth(cloth, 1), wet[cloth]);
            DUE.due("line", sky.cloth(cloth, 2), -1);
            DUE.due("pegs", sky.cloth(cloth, 3), 0);
            DUE.due("told", sky.cloth(cloth, 4), wet[cloth]);
        }
        sky.hang(2, 1, 2);
        sky.hour();
        DUE.due("wet behind an hour", sky.cloth(2, 1), 4);
        DUE.due("its line", sky.cloth(2, 2), 1);
        DUE.due("its pegs", sky.cloth(2, 3), 2);
        DUE.due("as told", sky.cloth(2, 4), 6);
        DUE.due("cloth(0, 5)", sky.cloth(0, 5), -2);
        DUE.due("cloth(0, -1)", sky.cloth(0, -1), -2);
        DUE.due("cloth(5, 0)", sky.cloth(5, 0), -2);
        DUE.due("cloth(-1, 0)", sky.cloth(-1, 0), -2);
    }

    private static void places() {
        LaundrySky sky = Due.sky(STREET);
        DUE.due("nothing", sky.place(0, 0), -1);
        DUE.due("none of it", sky.place(0, 1), 0);
        DUE.due("no wind", sky.place(0, 2), 0);
        DUE.due("under", sky.place(1, 3), 3);
        sky.hang(1, 0, 1);
        sky.hang(4, 0, 2);
        sky.hang(2, 1, 1);
        DUE.due("two shirts", sky.place(0, 0), 1);
        DUE.due("two", sky.place(0, 1), 2);
        DUE.due("wind", sky.place(0, 2), 3);
        DUE.due("two shirts against a skirt", sky.place(1, 0), 1);
        DUE.due("wind of both lines", sky.place(1, 2), 5);
        DUE.due("another line", sky.place(2, 0), -1);
        sky.hour();
        sky.hour();
        DUE.due("the first shirt is dry", sky.cloth(1, 1), 0);
        DUE.due("the other shirt alone", sky.place(1, 0), 1);
        DUE.due("the skirt is dry too", sky.cloth(2, 1), 0);
        DUE.due("dry ones make wind", sky.place(1, 2), 5);
        DUE.due("place(0, 4)", sky.place(0, 4), -2);
        DUE.due("place(0, -1)", sky.place(0, -1), -2);
        DUE.due("place(3, 0)", sky.place(3, 0), -2);
        DUE.due("place(-1, 0)", sky.place(-1, 0), -2);
    }

    private static void equalKinds() {
        LaundrySky sky = Due.sky("line a pegs 9;place p under a;cloth b shirt wet 9;cloth s sheet wet 9;"
            + "cloth o sock wet 9;cloth r skirt wet 9;cloth c shirt wet 9;");
        int[] due = {1, 0, 3, 2};
        for (int cloth = 0; cloth < 4; cloth++) {
            sky.hang(cloth, 0, 1);
            DUE.due("of equal ones", sky.place(0, 0), due[cloth]);
        }
        sky.hang(4, 0, 1);
        DUE.due("the most", sky.place(0, 0), 1);
        DUE.due("how many", sky.place(0, 1), 2);
    }

    private static void hanging() {
        LaundrySky sky = Due.sky(STREET);
        DUE.due("no pegs", sky.hang(0, 0, 0), -1);
        DUE.due("four pegs", sky.hang(0, 0, 4), -1);
        DUE.due("negative", sky.hang(0, 0, -1), -1);
        DUE.due("no such cloth", sky.hang(5, 0, 1), -1);
        DUE.due("no such cloth", sky.hang(-1, 0, 1), -1);
        DUE.due("no such line", sky.hang(0, 3, 1), -1);
        DUE.due("no such line", sky.hang(0, -1, 1), -1);
        DUE.due("too few free", sky.hang(0, 2, 2), -1);
        DUE.due("nothing was done", sky.count(10), 0);
        DUE.due("hang", sky.hang(0, 0, 2), 2);
        DUE.due("it hangs", sky.hang(0, 1, 1), -1);
        DUE.due("three are too many", sky.hang(1, 0, 3), -1);
        DUE.due("two are not", sky.hang(1, 0, 2), 0);
        DUE.due("all are taken", sky.hang(2, 0, 1), -1);
        DUE.due("the last peg", sky.hang(2, 2, 1), 0);
        DUE.due("hanging", sky.count(4), 7);
    }

    private static void taking() {
        LaundrySky sky = Due.sky(STREET);
        DUE.due("it does not hang", sky.take(0), -1);
        DUE.due("others", sky.take(5), -1);
        DUE.due("others", sky.take(-1), -1);
        sky.hang(0, 0, 3);
        sky.hour();
        DUE.due("how wet", sky.take(0), 3);
        DUE.due("pegs are free again", sky.line(0, 1), 4);
        DUE.due("it stays as wet", sky.cloth(0, 1), 3);
        DUE.due("not twice", sky.take(0), -1);
        DUE.due("no line", sky.cloth(0, 2), -1);
        DUE.due("no pegs", sky.cloth(0, 3), 0);
        sky.hour();
        DUE.due("what lies does not dry", sky.cloth(0, 1), 3);
    }

    private static void washing() {
        LaundrySky sky = Due.sky(STREET);
        DUE.due("wash", sky.wash(0), true);
        DUE.due("others", sky.wash(5), false);
        DUE.due("others", sky.wash(-1), false);
        sky.hang(0, 0, 1);
        DUE.due("it hangs", sky.wash(0), false);
        sky.hour();
        sky.take(0);
        DUE.due("drier", sky.cloth(0, 1), 1);
        DUE.due("wash", sky.wash(0), true);
        DUE.due("as told", sky.cloth(0, 1), 4);
        DUE.due("each can be undone", sky.count(10), 5);
    }

    private static void hours() {
        LaundrySky sky = Due.sky(STREET);
        sky.hang(0, 0, 1);
        sky.hang(3, 0, 3);
        sky.hang(2, 1, 2);
        DUE.due("the sock", sky.hour(), 8);
        DUE.due("the hour", sky.count(3), 1);
        DUE.due("the sheet, no more the sock", sky.hour(), 1);
        DUE.due("the skirt", sky.hour(), 4);
        DUE.due("none", sky.hour(), 0);
        DUE.due("no less than 0", sky.cloth(3, 1), 0);
        DUE.due("the hour", sky.count(3), 4);
        DUE.due("those that lie are wet", sky.count(5), 18);
    }

    private static void laws() {
        law("damp", 20, 11);
        law("damp - 12", 20, 12);
        law("loose", 20, 18);
        law("3 - 4", 20, 20);
        law("2 - 1 - 1", 20, 20);
        law("1 + 2 * 3", 20, 13);
        law("(1 + 1) * 3", 20, 14);
        law("sun * 2", 20, 16);
        law("clock + 1", 20, 19);
        law("1 < 2", 20, 19);
        law("2 < 2", 20, 20);
        law("2 = 2", 20, 19);
        law("2 = 3", 20, 20);
        law("not 0 + 1", 20, 18);
        law("not 7", 20, 20);
        law("not not 7", 20, 19);
        law("5 and 6", 20, 19);
        law("5 and 0", 20, 20);
        law("0 or 6", 20, 19);
        law("0 or 0", 20, 20);
        law("1 or 1 and 0", 20, 20);
        law("0 and 0 or 1", 20, 19);
        law("1 < 2 + 1 and 2 * 1 = 2", 20, 19);
        law("9999 * 9999 * 43 - 9999 * 417 - 3161", 20, 17);
        law("9999 * 9999 * 22", 20, 20);
        law("not (1 and 0) * 4", 20, 16);
        law("9", 20, 11);
        law("10", 20, 11);
        String deep = "0 or 0 < 0 + 1 * ";
        law((deep + "(").repeat(4) + deep + "1" + ")".repeat(4), 20, 19);
        law((deep + "(").repeat(4) + deep + "0" + ")".repeat(4), 20, 20);
        together();
    }

    /** Two wet shirts hang, the first by one peg; how wet it is behind an hour. */
    private static void law(String law, int wet, int due) {
        LaundrySky sky = Due.sky("line a pegs 9;cloth b shirt wet " + wet + ";cloth c shirt wet 20;"
            + "cloth d shirt wet 20;cloth e sock wet 20;dries " + law + ";");
        sky.hang(0, 0, 1);
        sky.hang(1, 0, 2);
        sky.hang(3, 0, 1);
        sky.hour();
        DUE.due("dries " + law, sky.cloth(0, 1), due);
    }

    /** The sun that shone when the hour began is the sun for all. */
    private static void together() {
        LaundrySky sky = Due.sky("line a pegs 9;cloth b shirt wet 1;cloth c sock wet 9;dries sun;");
        sky.hang(0, 0, 1);
        sky.hang(1, 0, 1);
        DUE.due("the shirt is dry", sky.hour(), 1);
        DUE.due("the sock had its sun", sky.cloth(1, 1), 8);
        DUE.due("no sun now", sky.hour(), 0);
        DUE.due("the sock", sky.cloth(1, 1), 8);
        LaundrySky turned = Due.sky("line a pegs 9;cloth c sock wet 9;cloth b shirt wet 3;dries clock * 2 + 1;");
        turned.hang(0, 0, 3);
        turned.hour();
        DUE.due("clock 0", turned.cloth(0, 1), 8);
        turned.hour();
        DUE.due("clock 1", turned.cloth(0, 1), 5);
    }

    private static void undoing() {
        LaundrySky sky = Due.sky(STREET);
        sky.want(0, 1);
        sky.hang(0, 0, 1);
        sky.hour();
        sky.take(0);
        sky.wash(0);
        sky.tell(0, 0, 0);
        DUE.due("four", sky.count(10), 4);
        DUE.due("undo the wash", sky.undo(), true);
        DUE.due("drier", sky.cloth(0, 1), 1);
        DUE.due("undo the take", sky.undo(), true);
        DUE.due("it hangs", sky.cloth(0, 2), 0);
        DUE.due("by one", sky.cloth(0, 3), 1);
        DUE.due("undo the hour", sky.undo(), true);
        DUE.due("as wet", sky.cloth(0, 1), 4);
        DUE.due("the hour", sky.count(3), 0);
        DUE.due("undo the hanging", sky.undo(), true);
        DUE.due("it lies", sky.cloth(0, 2), -1);
        DUE.due("no more", sky.undo(), false);
        DUE.due("wanted stays", sky.count(7), 1);
        DUE.due("told stays", sky.count(9), 1);
        for (int i = 0; i < 20; i++) {
            sky.hour();
        }
        DUE.due("sixteen", sky.count(10), 16);
        for (int i = 0; i < 16; i++) {
            DUE.due("undo", sky.undo(), true);
        }
        DUE.due("not the seventeenth", sky.undo(), false);
        DUE.due("four hours stay", sky.count(3), 4);
        sky.hour();
        DUE.due("one again", sky.count(10), 1);
    }

    private static void marks() {
        LaundrySky sky = Due.sky(STREET);
        DUE.due("none such", sky.mark(-1, false), false);
        DUE.due("none such", sky.mark(4, false), false);
        DUE.due("none such", sky.mark(4, true), false);
        DUE.due("nothing is on it", sky.mark(3, true), false);
        sky.hang(0, 0, 1);
        sky.hour();
        sky.want(0, 2);
        sky.tell(1, 2, 3);
        DUE.due("laid", sky.mark(3, false), true);
        DUE.due("undo is left alone by it", sky.count(10), 2);
        sky.take(0);
        sky.wash(0);
        sky.hour();
        sky.want(1, 2);
        sky.want(0, 3);
        sky.tell(0, 0, 0);
        Due.type(sky, "hour;");
        sky.morning();
        DUE.due("back", sky.mark(3, true), true);
        DUE.due("it hangs", sky.cloth(0, 2), 0);
        DUE.due("as wet", sky.cloth(0, 1), 1);
        DUE.due("the hour", sky.count(3), 1);
        DUE.due("wanted", sky.count(7), 1);
        DUE.due("told", sky.count(9), 1);
        DUE.due("the morning stays", sky.count(8), 1);
        DUE.due("nothing can be undone", sky.count(10), 0);
        DUE.due("undo", sky.undo(), false);
        sky.take(0);
        DUE.due("back again", sky.mark(3, true), true);
        DUE.due("it hangs", sky.cloth(0, 2), 0);
        DUE.due("what was wanted then is wanted", sky.wish(-1), 1);
        DUE.due("of the skirt", sky.wish(2), 0);
        DUE.due("others are not laid", sky.mark(2, true), false);
        markedTellings();
        sky.take(0);
        sky.mark(3, false);
        sky.hang(1, 0, 1);
        DUE.due("laid anew", sky.mark(3, true), true);
        DUE.due("nothing hangs", sky.count(4), 0);
    }

    private static void markedTellings() {
        LaundrySky sky = Due.sky(STREET);
        for (int i = 0; i < 4; i++) {
            DUE.due("laid", sky.mark(i, false), true);
        }
        sky.tell(1, 0, 1);
        sky.tell(0, 6, -1);
        int told = sky.pairs(0);
        sky.mark(0, false);
        sky.mark(1, true);
        DUE.due("nothing is told", sky.count(9), 0);
        sky.tell(2, 3, 3);
        sky.tell(2, 3, 2);
        DUE.due("another thing is told", sky.pairs(0), 0);
        sky.mark(0, true);
        DUE.due("what was told is told again", sky.pairs(0), told);
        DUE.due("by the shirts that were meant", sky.pairs(1), 2 + 16);
        DUE.due("on the lines that were meant", sky.pairs(2), 3);
        DUE.due("an empty street", sky.street(), 0);
        for (int i = 0; i < 4; i++) {
            DUE.due("no mark is there", sky.mark(i, true), false);
        }
    }

    private static void judging() {
        LaundrySky sky = Due.sky(STREET);
        judge(sky, "", -1, -1, 0);
        judge(sky, "hang sa a 1;hour;hour;", -1, -1, 1);
        judge(sky, "hang sa a 1;wash sa;take sa;take sa;", 1, -1, 0);
        judge(sky, "hang sa a 1;hang sa b 1;", 1, -1, 0);
        judge(sky, "hour;take sa;", 1, -1, 0);
        judge(sky, "hang sa c 2;hang ra c 1;hour;", 0, 1, 0);
        judge(sky, "wash ra;hour;hang sa a 1;hang ra b 1;", -1, 3, 0);
        judge(sky, "hang ra a 1;take ra;hang so a 3;hang sa a 1;hour;hour;", -1, 0, 2);
        judge(sky, "hang ba a 1;hang bb a 1;hang ra a 1;hour;hour;", -1, -1, 2);
        judge(sky, "hang ba a 1;hang bb a 1;hang ra a 2;hour;hour;", -1, 4, 1);
        DUE.due("others", sky.judged(-1), -2);
        DUE.due("others", sky.judged(3), -2);
        DUE.due("what is now is left alone", sky.count(4) + sky.count(3) + sky.count(10), 0);
        sky.hang(0, 0, 1);
        sky.hour();
        sky.take(0);
        judge(sky, "hang sa a 3;hour;hour;hour;", -1, -1, 0);
        judge(sky, "hang sa a 1;hour;hour;take sa;wash sa;hang sa a 3;hour;hour;hour;", -1, -1, 0);
        judge(sky, "hang sa a 1;hour;hour;take sa;hang sa a 3;", -1, -1, 1);
        judge(sky, "hang sa a 2;hang ba a 2;hang bb a 1;take sa;hang bb a 2;", 2, -1, 0);
        DUE.due("what is now is left alone", sky.cloth(0, 1), 1);
    }

    private static void judge(LaundrySky sky, String text, int wrong, int thunder, int dry) {
        DUE.morning(sky, text, 0, 0);
        DUE.due("judged(0) of " + text, sky.judged(0), wrong);
        DUE.due("judged(1) of " + text, sky.judged(1), thunder);
        DUE.due("judged(2) of " + text, sky.judged(2), dry);
    }

    private static void counts() {
        LaundrySky sky = Due.sky(STREET);
        sky.hang(3, 0, 2);
        sky.hang(0, 1, 1);
        sky.hour();
        sky.want(0, -1);
        sky.want(2, 3);
        sky.tell(0, 1, 2);
        Due.type(sky, "hour;hour;");
        sky.morning();
        Due.type(sky, "abc");
        int[] due = {3, 3, 5, 1, 9, 23, 4, 5, 2, 1, 3, 3};
        for (int what = 0; what < due.length; what++) {
            DUE.due("count(" + what + ")", sky.count(what), due[what]);
        }
        DUE.due("count(12)", sky.count(12), -1);
        DUE.due("count(-1)", sky.count(-1), -1);
    }
}
