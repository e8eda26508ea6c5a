/** Promises 14 to 22, 27, 30 and 32: what will be, what is wanted or told, chances, Mays. */
public final class AheadTest {
    private static final Due DUE = new Due();
    private static final String STREET = "line a pegs 4;line b pegs 2;line c pegs 1;"
        + "place p under a;place q under a b;place r under c;"
        + "cloth sa sheet wet 4;cloth ba shirt wet 6;cloth ra skirt wet 6;cloth so sock wet 1;cloth bb shirt wet 20;";

    public static void main(String[] args) {
        later();
        dry();
        clears();
        last();
        chance();
        chanceOfTheClock();
        want();
        wish();
        wishRows();
        lift();
        tell();
        pairs();
        look();
        mays();
        DUE.end("AheadTest");
    }

    private static LaundrySky hung() {
        LaundrySky sky = Due.sky(STREET);
        sky.hang(1, 0, 3);
        sky.hang(2, 0, 1);
        sky.hang(3, 2, 1);
        return sky;
    }

    private static void later() {
        LaundrySky sky = hung();
        int[] due = {2, 2, 1, 1, 1, 1, -1};
        for (int hours = 0; hours < due.length; hours++) {
            DUE.due("later(0, " + hours + ")", sky.later(0, hours), due[hours]);
        }
        DUE.due("later(0, 40)", sky.later(0, 40), -1);
        DUE.due("later(2, 0)", sky.later(2, 0), 3);
        DUE.due("later(2, 1)", sky.later(2, 1), -1);
        DUE.due("later(0, 41)", sky.later(0, 41), -2);
        DUE.due("later(0, -1)", sky.later(0, -1), -2);
        DUE.due("later(3, 0)", sky.later(3, 0), -2);
        DUE.due("later(-1, 0)", sky.later(-1, 0), -2);
        DUE.due("now is left alone", sky.cloth(1, 1), 6);
        DUE.due("now is left alone", sky.count(3), 0);
        sky.hang(0, 1, 2);
        DUE.due("the first cloth", sky.later(1, 0), 2);
        DUE.due("the first cloth too", sky.later(1, 1), 2);
        sky.take(2);
        DUE.due("the first cloth outranks a shirt", sky.later(1, 1), 0);
        DUE.due("until it is dry", sky.later(1, 2), 1);
    }

    private static void dry() {
        LaundrySky sky = hung();
        DUE.due("dry(1)", sky.dry(1), 6);
        DUE.due("dry(2)", sky.dry(2), 2);
        DUE.due("dry(3)", sky.dry(3), 1);
        DUE.due("it lies", sky.dry(0), -1);
        DUE.due("others", sky.dry(5), -1);
        DUE.due("others", sky.dry(-1), -1);
        sky.hour();
        DUE.due("dry now", sky.dry(3), 0);
        slow(20, "clock = 39 and damp < 2 or not (clock = 39)", 20);
        LaundrySky forty = Due.sky("line a pegs 3;place p under a;cloth c sock wet 1;dries clock = 39;");
        forty.hang(0, 0, 1);
        DUE.due("by 40", forty.dry(0), 40);
        DUE.due("clears by 40", forty.clears(0), 40);
        DUE.due("last by 40", forty.last(), 0);
        LaundrySky more = Due.sky("line a pegs 3;place p under a;cloth c sock wet 1;dries clock = 40;");
        more.hang(0, 0, 1);
        DUE.due("not by 40", more.dry(0), -1);
        DUE.due("does not clear by 40", more.clears(0), -1);
        DUE.due("has no last", more.last(), -1);
        more.hour();
        DUE.due("an hour on", more.dry(0), 40);
    }

    private static void slow(int wet, String law, int due) {
        LaundrySky sky = Due.sky("line a pegs 3;cloth c sock wet " + wet + ";dries " + law + ";");
        sky.hang(0, 0, 1);
        DUE.due("dries " + law, sky.dry(0), due);
    }

    private static void clears() {
        LaundrySky sky = hung();
        DUE.due("clears(0)", sky.clears(0), 6);
        DUE.due("clears(1)", sky.clears(1), 6);
        DUE.due("clears(2)", sky.clears(2), 1);
        DUE.due("others", sky.clears(3), -1);
        DUE.due("others", sky.clears(-1), -1);
        sky.take(3);
        DUE.due("clear now", sky.clears(2), 0);
    }

    private static void last() {
        LaundrySky sky = Due.sky("line a pegs 9;cloth xa sock wet 2;cloth xb sock wet 4;cloth xc sock wet 4;"
            + "cloth xd sheet wet 9;cloth xe sheet wet 20;dries 2 * (damp < 10);");
        DUE.due("nothing hangs", sky.last(), -1);
        sky.hang(4, 0, 1);
        DUE.due("it never dries", sky.last(), -1);
        sky.hang(0, 0, 1);
        DUE.due("the first sock", sky.last(), 0);
        sky.hang(2, 0, 1);
        DUE.due("a longer one", sky.last(), 2);
        sky.hang(1, 0, 1);
        DUE.due("of equal ones", sky.last(), 1);
        sky.hour();
        sky.hour();
        DUE.due("dry ones have a dry of 0", sky.last(), 0);
        sky.take(0);
        DUE.due("dry ones have a dry of 0", sky.last(), 1);
        sky.hang(3, 0, 1);
        DUE.due("the sheet", sky.last(), 3);
    }

    private static void chance() {
        LaundrySky sky = hung();
        DUE.due("one hour", sky.chance(3, 1, 5), 500000);
        DUE.due("two hours", sky.chance(3, 2, 5), 750000);
        DUE.due("one of six", sky.chance(3, 6, 1), 468559);
        DUE.due("two of two", sky.chance(2, 2, 3), 90000);
        DUE.due("two of three", sky.chance(2, 3, 3), 216000);
        DUE.due("six of six", sky.chance(1, 6, 9), 531441);
        DUE.due("six of five", sky.chance(1, 5, 10), 0);
        DUE.due("sure", sky.chance(1, 6, 10), 1000000);
        DUE.due("never", sky.chance(3, 6, 0), 0);
        DUE.due("it lies", sky.chance(0, 1, 5), -1);
        DUE.due("others", sky.chance(5, 1, 5), -1);
        DUE.due("others", sky.chance(-1, 1, 5), -1);
        DUE.due("others", sky.chance(1, 0, 5), -1);
        DUE.due("others", sky.chance(1, 7, 5), -1);
        DUE.due("others", sky.chance(1, 1, -1), -1);
        DUE.due("others", sky.chance(1, 1, 11), -1);
        sky.hour();
        DUE.due("dry now", sky.chance(3, 1, 0), 1000000);
        DUE.due("now is left alone", sky.count(3), 1);
    }

    /** The clock goes on in an hour in which nothing dries. */
    private static void chanceOfTheClock() {
        LaundrySky sky = Due.sky("line a pegs 3;cloth c sock wet 1;dries clock = 1;");
        sky.hang(0, 0, 1);
        DUE.due("not in the first hour", sky.chance(0, 1, 7), 0);
        DUE.due("in the second one", sky.chance(0, 2, 7), 700000);
        DUE.due("and no later", sky.chance(0, 3, 7), 700000);
    }

    private static void want() {
        LaundrySky sky = Due.sky(STREET);
        DUE.due("others", sky.want(3, 0), false);
        DUE.due("others", sky.want(-1, 0), false);
        DUE.due("others", sky.want(0, 4), false);
        DUE.due("others", sky.want(0, -2), false);
        DUE.due("nothing is wanted", sky.count(7), 0);
        DUE.due("want", sky.want(0, 3), true);
        DUE.due("the sock", sky.wish(3), 0);
        DUE.due("a later one", sky.want(0, 0), true);
        DUE.due("the sheet", sky.wish(0), 0);
        DUE.due("not the sock", sky.wish(3), -1);
        DUE.due("none is wanted", sky.want(2, -1), true);
        DUE.due("both", sky.count(7), 5);
    }

    private static void wish() {
        LaundrySky sky = Due.sky(STREET);
        DUE.due("nothing is wanted", sky.wish(-1), 0);
        DUE.due("nothing is hung", sky.wish(4), -1);
        DUE.due("others", sky.wish(5), -2);
        DUE.due("others", sky.wish(-2), -2);
        sky.want(0, 1);
        sky.want(1, 1);
        sky.want(2, 1);
        DUE.due("two", sky.wish(-1), 2);
        DUE.due("the first shirt", sky.wish(1), 0);
        DUE.due("the second shirt", sky.wish(4), 2);
        DUE.due("no other", sky.wish(2), -1);
        sky.hang(0, 1, 1);
        sky.want(2, -1);
        DUE.due("two shirts against a sheet are not needed on both", sky.wish(-1), 2);
        sky.take(0);
        sky.hang(2, 0, 1);
        DUE.due("the skirt hangs already", sky.wish(2), -1);
        DUE.due("two shirts against a skirt", sky.wish(-1), 2);
        DUE.due("both there", sky.wish(1) + sky.wish(4), 0);
        sky.want(2, 1);
        DUE.due("by none", sky.wish(-1), -2);
        DUE.due("by none", sky.wish(0), -2);
        DUE.due("nothing was hung", sky.count(4), 4);
    }

    private static void wishRows() {
        LaundrySky sky = Due.sky("line a pegs 1;line b pegs 2;place p under b;place q under a b;"
            + "cloth d sock wet 3;cloth e sock wet 9;cloth f sock wet 9;");
        sky.want(1, 3);
        DUE.due("the first cloth on the first line", sky.wish(0), 0);
        DUE.due("one", sky.wish(-1), 1);
        sky.want(0, 3);
        DUE.due("one is enough", sky.wish(-1), 1);
        DUE.due("on the line above both", sky.wish(0), 1);
        sky.hang(0, 0, 1);
        sky.hour();
        sky.take(0);
        DUE.due("a dry one is of no use", sky.wish(0), -1);
        DUE.due("the next one", sky.wish(1), 1);
        sky.wash(0);
        sky.hang(0, 1, 2);
        DUE.due("it is so", sky.wish(-1), 0);
        sky.hour();
        sky.hour();
        DUE.due("no peg is free", sky.wish(-1), -2);
        sky.want(0, -1);
        DUE.due("nothing there, a sock here", sky.wish(1), 0);
        wishOfAll();
        wishByNone();
    }

    /** Wishes of several cloths, whose rows are told whole. */
    private static void wishOfAll() {
        LaundrySky sky = Due.sky("line a pegs 9;line b pegs 9;line c pegs 2;place p under a;place q under b;place r under c;"
            + "cloth e sock wet 9;cloth f sheet wet 9;cloth g sock wet 9;cloth h sheet wet 9;cloth i skirt wet 9;"
            + "cloth j sock wet 9;");
        sky.want(0, 3);
        sky.want(1, 0);
        sky.want(2, 2);
        DUE.due("one each", sky.wish(-1), 3);
        int[] first = {0, 1, -1, -1, 2, -1};
        for (int cloth = 0; cloth < 6; cloth++) {
            DUE.due("the row's cloth " + cloth, sky.wish(cloth), first[cloth]);
        }
        LaundrySky six = Due.sky("line a pegs 1;line b pegs 1;line c pegs 2;line d pegs 1;line e pegs 1;"
            + "place p under a b c d e;place q under e;place r under d;place s under c;"
            + "cloth f shirt wet 9;cloth g skirt wet 9;cloth h shirt wet 9;cloth i shirt wet 9;cloth j skirt wet 9;"
            + "cloth k shirt wet 9;");
        six.want(0, 1);
        six.want(1, 2);
        six.want(2, 2);
        six.want(3, 1);
        DUE.due("two skirts, and three shirts to outdo them", six.wish(-1), 5);
        int[] row = {0, 3, 1, 2, 4, -1};
        for (int cloth = 0; cloth < 6; cloth++) {
            DUE.due("the row's cloth " + cloth, six.wish(cloth), row[cloth]);
        }
        LaundrySky all = Due.sky("line a pegs 4;line b pegs 1;line c pegs 1;place p under a b c;place q under b;"
            + "place r under c;cloth f shirt wet 9;cloth g skirt wet 9;cloth h shirt wet 9;cloth i shirt wet 9;"
            + "cloth j shirt wet 9;cloth k skirt wet 9;");
        all.want(0, 1);
        all.want(1, 2);
        all.want(2, 2);
        DUE.due("two skirts, three shirts", all.wish(-1), 5);
        all.hang(1, 0, 1);
        all.want(2, 1);
        DUE.due("a skirt hangs: a skirt and three shirts more", all.wish(-1), 4);
        LaundrySky whole = Due.sky("line a pegs 3;line b pegs 1;line c pegs 1;line d pegs 1;place p under a b c;"
            + "place q under b;place r under c;place s under d;cloth f shirt wet 9;cloth g skirt wet 9;"
            + "cloth h shirt wet 9;cloth i shirt wet 9;cloth j sheet wet 9;cloth k skirt wet 9;");
        whole.want(0, 1);
        whole.want(1, 2);
        whole.want(2, 2);
        whole.want(3, 0);
        DUE.due("all six", whole.wish(-1), 6);
        int[] everyone = {0, 1, 0, 0, 3, 2};
        for (int cloth = 0; cloth < 6; cloth++) {
            DUE.due("the row's cloth " + cloth, whole.wish(cloth), everyone[cloth]);
        }
    }

    private static void wishByNone() {
        LaundrySky sky = Due.sky("line a pegs 9;line b pegs 1;place p under a;place q under b;cloth c sock wet 9;"
            + "cloth d sheet wet 1;");
        sky.want(0, 3);
        sky.want(1, 3);
        DUE.due("one sock for two", sky.wish(-1), -2);
        sky.want(1, 0);
        DUE.due("a sock and a sheet", sky.wish(-1), 2);
        sky.hang(1, 0, 3);
        sky.hour();
        sky.take(1);
        DUE.due("the sheet is dry", sky.wish(-1), -2);
        sky.want(1, -1);
        DUE.due("so it be", sky.wish(-1), 1);
        sky.wash(1);
        sky.hang(1, 1, 1);
        DUE.due("what hangs is in the way", sky.wish(-1), -2);
        sky.hour();
        DUE.due("until it is dry", sky.wish(-1), 1);
    }

    private static void lift() {
        LaundrySky sky = Due.sky("line a pegs 9;line b pegs 9;place p under a;cloth d shirt wet 9;cloth e shirt wet 9;"
            + "cloth f sheet wet 9;cloth g sock wet 9;cloth h skirt wet 9;cloth i shirt wet 9;");
        DUE.due("nothing there", sky.lift(0, -1), 0);
        DUE.due("by none", sky.lift(0, 1), -1);
        for (int cloth = 0; cloth < 5; cloth++) {
            sky.hang(cloth, 0, 1);
        }
        sky.hang(5, 1, 1);
        DUE.due("it has that", sky.lift(0, 1), 0);
        DUE.due("thunder: one shirt, the least", sky.lift(0, 2), 1);
        DUE.due("hail: a shirt and the skirt", sky.lift(0, 3), 17);
        DUE.due("snow: a shirt, the skirt and the sock", sky.lift(0, 0), 25);
        DUE.due("nothing: all five", sky.lift(0, -1), 31);
        DUE.due("others", sky.lift(1, 0), -1);
        DUE.due("others", sky.lift(-1, 0), -1);
        DUE.due("others", sky.lift(0, 4), -1);
        DUE.due("others", sky.lift(0, -2), -1);
        DUE.due("nothing was taken down", sky.count(4), 63);
    }

    private static void tell() {
        LaundrySky sky = Due.sky(STREET);
        DUE.due("others", sky.tell(3, 0, 0), false);
        DUE.due("others", sky.tell(-1, 0, 0), false);
        DUE.due("others", sky.tell(0, -1, 0), false);
        DUE.due("others", sky.tell(0, 13, 0), false);
        DUE.due("others", sky.tell(0, 0, -2), false);
        DUE.due("others", sky.tell(0, 0, 4), false);
        DUE.due("none", sky.count(9), 0);
        for (int i = 0; i < 6; i++) {
            DUE.due("tell", sky.tell(0, 12, -1), true);
        }
        DUE.due("six there are", sky.tell(0, 12, -1), false);
        DUE.due("six", sky.count(9), 6);
    }

    private static void pairs() {
        LaundrySky sky = Due.sky(STREET);
        DUE.due("all", sky.pairs(0), 15);
        DUE.due("cloths", sky.pairs(1), 31);
        DUE.due("lines", sky.pairs(2), 7);
        DUE.due("others", sky.pairs(3), -1);
        DUE.due("others", sky.pairs(-1), -1);
        sky.hang(0, 2, 1);
        DUE.due("four cloths, two lines", sky.pairs(0), 8);
        sky.tell(1, 0, 1);
        DUE.due("two shirts, two lines", sky.pairs(0), 4);
        DUE.due("the shirts", sky.pairs(1), 18);
        sky.tell(0, 1, -1);
        DUE.due("on the second line", sky.pairs(2), 2);
        sky.tell(1, 6, -1);
        DUE.due("the one that dries in two hours", sky.pairs(1), 2);
        DUE.due("one", sky.pairs(0), 1);
        sky.tell(2, 0, 2);
        DUE.due("none", sky.pairs(0), 0);
        DUE.due("none", sky.pairs(1) + sky.pairs(2), 0);
        DUE.due("nothing was hung", sky.count(4), 1);
        LaundrySky loose = Due.sky("line a pegs 9;place p under a;cloth c sock wet 2;dries loose;");
        loose.tell(0, 1, -1);
        DUE.due("by one peg", loose.pairs(0), 1);
        loose.tell(0, 0, -1);
        DUE.due("an elder one behind a later one", loose.pairs(0), 0);
        LaundrySky late = Due.sky("line a pegs 1;place p under a;cloth c sock wet 1;cloth d sock wet 1;dries clock = 11;");
        late.tell(0, 12, -1);
        DUE.due("dry by the twelfth", late.pairs(0), 2);
        late.tell(0, 11, 3);
        DUE.due("not by the eleventh", late.pairs(0), 2);
        late.tell(0, 11, -1);
        DUE.due("not both", late.pairs(0), 0);
    }

    private static void look() {
        LaundrySky sky = Due.sky(STREET);
        DUE.due("others", sky.look(-1), -1);
        DUE.due("others", sky.look(13), -1);
        DUE.due("the place below two lines parts best", sky.look(0), 1);
        LaundrySky even = Due.sky("line a pegs 1;line b pegs 1;place p under a;place q under b;place r under a b;"
            + "cloth c sock wet 9;");
        DUE.due("of equal ones the first", even.look(0), 0);
        even.tell(0, 0, 3);
        DUE.due("none parts one", even.look(0), -1);
        even.tell(0, 0, 2);
        DUE.due("none parts none", even.look(0), -1);
        LaundrySky time = Due.sky("line a pegs 1;place p under a;cloth c sock wet 2;cloth d sock wet 20;"
            + "dries 2 * (clock = 11);");
        DUE.due("alike now", time.look(0), -1);
        DUE.due("alike behind 11", time.look(11), -1);
        DUE.due("parted behind 12", time.look(12), 0);
        DUE.due("others, though it would part", time.look(13), -1);
        DUE.due("others", time.look(-1), -1);
        time.hour();
        DUE.due("from now on", time.look(11), 0);
        time.undo();
        DUE.due("nothing was hung", time.count(4) + time.count(3), 0);
        DUE.due("no place", Due.sky("line a pegs 1;cloth c sock wet 1;cloth d sock wet 1;").look(0), -1);
    }

    private static void mays() {
        LaundrySky sky = Due.sky("line a pegs 9;line b pegs 9;place p under a;cloth c skirt wet 20;cloth d sock wet 1;");
        sky.hour();
        DUE.due("others", sky.mays(-1, 1, 0), -1);
        DUE.due("others", sky.mays(10000, 1, 0), -1);
        DUE.due("others", sky.mays(0, 0, 0), -1);
        DUE.due("others", sky.mays(0, 100, 0), -1);
        DUE.due("others", sky.mays(0, 1, -1), -1);
        DUE.due("others", sky.mays(0, 1, 3), -1);
        // seed 1: g / 65536 is 16838, 5758, 10113, 17515, 31051, 5627, 23010: cloth 0, line 0, pegs 1;
        // cloth 1, line 1, pegs 3; cloth 0, which hangs wet
        DUE.due("thunder at once", sky.mays(1, 1, 0), 0);
        DUE.due("one hung", sky.mays(1, 1, 1), 1);
        DUE.due("the skirt", sky.mays(1, 1, 2), 1);
        DUE.due("two hung", sky.mays(1, 2, 1), 2);
        DUE.due("both", sky.mays(1, 2, 2), 3);
        DUE.due("the third hour hangs none", sky.mays(1, 3, 1), 2);
        DUE.due("the skirt stays wet", sky.mays(1, 3, 0), 0);
        DUE.due("all is as ahead", sky.count(4), 0);
        DUE.due("all is as ahead", sky.count(3), 1);
        DUE.due("all is as ahead", sky.count(10), 1);
        // seed 0: g / 65536 is 0, 21468, 9988: cloth 0, line 0, pegs 2
        DUE.due("seed 0", sky.mays(0, 1, 2), 1);
        DUE.due("the greatest seed and hours", sky.mays(9999, 99, 0) >= 0, true);
        LaundrySky lines = Due.sky("line a pegs 1;place p under a;");
        DUE.due("no cloths", lines.mays(5, 99, 0), 99);
        DUE.due("no cloths", lines.mays(5, 99, 1) + lines.mays(5, 99, 2), 0);
        LaundrySky cloths = Due.sky("cloth c skirt wet 1;");
        DUE.due("no lines", cloths.mays(5, 9, 0), 9);
        DUE.due("no lines", cloths.mays(5, 9, 1), 0);
        mayOfOne();
    }

    /** One cloth, one line: hung, dry by the hour, taken down, hung again; pegs decide whether it can be. */
    private static void mayOfOne() {
        LaundrySky sky = Due.sky("line a pegs 3;place p under a;cloth c skirt wet 1;");
        DUE.due("hung", sky.mays(7, 1, 2), 1);
        DUE.due("dry behind its hour", sky.mays(7, 1, 0), 1);
        DUE.due("taken down", sky.mays(7, 2, 2), 0);
        DUE.due("washed and hung again", sky.mays(7, 3, 2), 1);
        DUE.due("twice", sky.mays(7, 3, 1), 2);
        sky.hang(0, 0, 1);
        sky.hour();
        DUE.due("from now on: taken down first", sky.mays(7, 1, 2), 0);
        sky.take(0);
        DUE.due("dry as it lies, it is washed", sky.mays(7, 2, 2), 0);
        LaundrySky wet = Due.sky("line a pegs 3;place p under a;cloth c skirt wet 20;dries 1;");
        wet.hang(0, 0, 1);
        for (int i = 0; i < 20; i++) {
            wet.hour();
        }
        wet.take(0);
        DUE.due("washed, it thunders", wet.mays(7, 1, 0), 0);
        DUE.due("but not now", wet.cloth(0, 1), 0);
        LaundrySky few = Due.sky("line a pegs 1;place p under a;cloth c skirt wet 20;");
        int hung = 0;
        for (int seed = 0; seed < 60; seed++) {
            int one = few.mays(seed, 1, 1);
            DUE.due("as often as it hangs", few.mays(seed, 1, 2), one);
            hung += one;
        }
        DUE.due("by one peg it can, by more it can't", hung > 5 && hung < 40, true);
    }
}
