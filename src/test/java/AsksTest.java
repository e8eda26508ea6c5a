/** Promises 23 to 26, 28, 29 and 31: questions of now, and hanging out at rest. */
public final class AsksTest {
    private static final Due DUE = new Due();
    private static final String STREET = "line a pegs 4;line b pegs 4;line c pegs 4;line d pegs 1;"
        + "place p under a;place q under a b;place r under c;"
        + "cloth sa sheet wet 4;cloth ba shirt wet 6;cloth ra skirt wet 6;cloth so sock wet 1;cloth bb shirt wet 20;"
        + "cloth sb sheet wet 9;crosses a b;crosses b c;crosses c d;";

    public static void main(String[] args) {
        rainbows();
        best();
        owes();
        sameAndStorm();
        rests();
        DUE.end("AsksTest");
    }

    private static void crossing(LaundrySky sky, String what, int rainbows, int quarrels) {
        DUE.due(what + ": rainbows", sky.rainbows(), rainbows);
        DUE.due(what + ": quarrels", sky.quarrels(), quarrels);
    }

    private static void rainbows() {
        LaundrySky sky = Due.sky(STREET);
        crossing(sky, "nothing", 0, 0);
        sky.hang(1, 0, 3);
        crossing(sky, "one shirt", 0, 0);
        sky.hang(4, 1, 1);
        crossing(sky, "two shirts", 0, 1);
        sky.hang(3, 1, 1);
        crossing(sky, "a shirt against a shirt and a sock", 1, 0);
        sky.hang(2, 2, 1);
        crossing(sky, "and a skirt against these", 2, 0);
        sky.take(4);
        crossing(sky, "the sock and the skirt quarrel", 1, 1);
        sky.hang(0, 3, 1);
        crossing(sky, "so do the skirt and the sheet", 1, 2);
        sky.hour();
        crossing(sky, "the sock is dry", 0, 1);
        sky.hour();
        crossing(sky, "all but the shirt are", 0, 0);
        LaundrySky apart = Due.sky("line a pegs 4;line b pegs 4;cloth c shirt wet 9;cloth d sock wet 9;");
        apart.hang(0, 0, 1);
        apart.hang(1, 1, 1);
        crossing(apart, "lines that do not cross", 0, 0);
        LaundrySky one = Due.sky("line a pegs 4;line b pegs 4;cloth c shirt wet 9;cloth d sock wet 9;crosses b a;");
        one.hang(0, 0, 1);
        one.hang(1, 0, 1);
        crossing(one, "both on one line", 0, 0);
    }

    private static void best() {
        LaundrySky sky = Due.sky(STREET);
        DUE.due("two places", sky.best(0), 0);
        DUE.due("others", sky.best(6), -1);
        DUE.due("others", sky.best(-1), -1);
        sky.hang(0, 0, 3);
        DUE.due("it hangs", sky.best(0), -1);
        DUE.due("a shirt comes behind a sheet: only the place below c", sky.best(1), 2);
        DUE.due("a skirt above both", sky.best(2), 0);
        sky.hang(5, 0, 1);
        DUE.due("no peg is free, two sheets are more: below c", sky.best(2), 2);
        sky.hang(4, 2, 1);
        DUE.due("a shirt changes nothing", sky.best(1), -1);
        DUE.due("a skirt changes below c", sky.best(2), 2);
        sky.hang(3, 1, 3);
        sky.hour();
        sky.take(3);
        DUE.due("a dry one changes nothing", sky.best(3), -1);
        LaundrySky even = Due.sky("line a pegs 1;line b pegs 1;place p under b;place q under a;cloth c sock wet 9;");
        DUE.due("of equal ones the first", even.best(0), 0);
        DUE.due("nothing was hung", even.count(4), 0);
        LaundrySky full = Due.sky("line a pegs 1;line b pegs 1;place p under a;place q under a;place r under b;"
            + "cloth c sock wet 9;cloth d skirt wet 9;");
        full.hang(0, 0, 1);
        DUE.due("where a peg is free", full.best(1), 1);
        LaundrySky none = Due.sky("line a pegs 1;line b pegs 1;place p under b;cloth c sock wet 9;");
        DUE.due("the line that is above a place", none.best(0), 1);
    }

    private static void owes() {
        LaundrySky sky = Due.sky(STREET);
        DUE.due("others", sky.owes(3), -1);
        DUE.due("others", sky.owes(-1), -1);
        DUE.due("nothing hangs", sky.owes(0), -1);
        sky.hang(1, 0, 1);
        sky.hang(4, 0, 1);
        DUE.due("two shirts owe to neither", sky.owes(0), -1);
        sky.hang(2, 0, 1);
        DUE.due("a shirt less, and the skirt wins", sky.owes(0), 1);
        sky.take(1);
        DUE.due("the skirt", sky.owes(0), 2);
        DUE.due("below both lines", sky.owes(1), 2);
        DUE.due("elsewhere", sky.owes(2), -1);
        DUE.due("nothing was taken", sky.count(4), 20);
        sky.hang(0, 2, 1);
        DUE.due("the first cloth", sky.owes(2), 0);
        sky.hang(5, 2, 1);
        DUE.due("neither sheet", sky.owes(2), -1);
        sky.hour();
        sky.hour();
        DUE.due("dry ones are owed nothing", sky.owes(2), 5);
    }

    private static void sameAndStorm() {
        DUE.due("no place", new LaundrySky().storm(), -1);
        DUE.due("no place", new LaundrySky().same(), 0);
        LaundrySky sky = Due.sky(STREET);
        DUE.due("all have nothing", sky.same(), 3);
        DUE.due("no wind", sky.storm(), 0);
        sky.hang(0, 0, 3);
        DUE.due("two have snow", sky.same(), 1);
        DUE.due("three pegs, no wind", sky.storm(), 0);
        sky.hang(5, 2, 2);
        DUE.due("all have snow", sky.same(), 3);
        DUE.due("wind in r", sky.storm(), 2);
        sky.hang(3, 1, 2);
        DUE.due("hail in q", sky.same(), 1);
        DUE.due("as much wind in q", sky.storm(), 1);
        sky.hang(2, 1, 1);
        DUE.due("more wind in q", sky.storm(), 1);
        sky.take(3);
        sky.hang(3, 2, 1);
        DUE.due("more wind in r", sky.storm(), 2);
    }

    private static void rests() {
        LaundrySky sky = new LaundrySky();
        rest(sky, 5, 2, 3, 0, 3);
        rest(sky, 2, 5, 3, 0);
        rest(sky, 3, 5, 3, 0, 3);
        rest(sky, 2, 0, 3, 0, 1, 2);
        rest(sky, 3, 0, 3, 0, 1, 2, 3);
        rest(sky, 4, 0, 3, 0, 3);
        rest(sky, 0, 0, 0, 0, 1, 2, 3);
        rest(sky, 9, 9, 9, 0, 3);
        rest(sky, 0, 9, 9, 0);
        DUE.noSuch(sky, -1, 0, 0, -1);
        DUE.noSuch(sky, 10, 0, 0, -1);
        DUE.noSuch(sky, 0, -1, 0, -1);
        DUE.noSuch(sky, 0, 10, 0, -1);
        DUE.noSuch(sky, 0, 0, -1, -1);
        DUE.noSuch(sky, 0, 0, 10, -1);
        DUE.noSuch(sky, 0, 0, 0, -2);
        DUE.noSuch(sky, 0, 0, 0, Integer.MIN_VALUE);
        DUE.noSuch(sky, 0, 0, 0, Integer.MAX_VALUE);
    }

    private static void rest(LaundrySky sky, int both, int loses, int gets, int... due) {
        String call = "rests(" + both + ", " + loses + ", " + gets + ", ";
        DUE.due(call + "-1)", sky.rests(both, loses, gets, -1), due.length);
        for (int i = 0; i < due.length; i++) {
            DUE.due(call + i + ")", sky.rests(both, loses, gets, i), due[i]);
        }
        DUE.noSuch(sky, both, loses, gets, due.length);
    }
}
