/** The edges of what will be, what is wanted, told and asked (the part that begins with ==== 3.). */
public final class AheadEdgesTest {
    private static final Edges EDGES = new Edges();

    public static void main(String[] args) {
        later();
        dry();
        clears();
        wanted();
        wishHanging();
        wishByOnePeg();
        wishAll();
        wishRows();
        lift();
        told();
        toldUnknown();
        toldSix();
        pairs();
        look();
        lookParts();
        rainbows();
        quarrels();
        best();
        owes();
        chance();
        chanceCut();
        same();
        storm();
        last();
        hanging();
        rests();
        draw();
        mays();
        maysEach();
        maysAnswers();
        marks();
        marksHold();
        EDGES.end("AheadEdgesTest");
    }

    /** A sock that is dry by one hour alone, the one behind which so many have gone. */
    private static LaundrySky dryBehind(int hours) {
        LaundrySky sky = Due.sky("line a pegs 9;place p under a;cloth c sock wet 1;cloth d skirt wet 1;dries clock = "
            + (hours - 1) + ";");
        sky.hang(0, 0, 1);
        return sky;
    }

    private static void later() {
        EDGES.terms("LATER at a PLACE: the WEATHER behind so many (0 to 40) HOURS, if nothing else is done.");
        LaundrySky sky = dryBehind(40);
        EDGES.due("0", sky.later(0, 0), 3);
        EDGES.due("39", sky.later(0, 39), 3);
        EDGES.due("40", sky.later(0, 40), -1);
        EDGES.due("41", sky.later(0, 41), -2);
        EDGES.due("-1", sky.later(0, -1), -2);
        LaundrySky one = dryBehind(1);
        EDGES.due("0", one.later(0, 0), 3);
        EDGES.due("1", one.later(0, 1), -1);
        one.hour();
        EDGES.due("from now on", one.later(0, 0), -1);
    }

    private static void dry() {
        EDGES.terms("DRY: behind how many HOURS (0 to 40) a CLOTH that hangs is not WET.");
        for (int hours : new int[] {1, 2, 39, 40}) {
            EDGES.due("behind " + hours, dryBehind(hours).dry(0), hours);
        }
        EDGES.due("41 are too many", dryBehind(41).dry(0), -1);
        LaundrySky sky = dryBehind(41);
        EDGES.due("it does not hang", sky.dry(1), -1);
        sky.hour();
        EDGES.due("from now on 40", sky.dry(0), 40);
        LaundrySky one = dryBehind(1);
        one.hour();
        EDGES.due("0", one.dry(0), 0);
        one.take(0);
        EDGES.due("dry, but it does not hang", one.dry(0), -1);
    }

    private static void clears() {
        EDGES.terms("CLEARS: behind how many HOURS (0 to 40) a PLACE has no WEATHER for the first time.");
        for (int hours : new int[] {1, 2, 39, 40}) {
            EDGES.due("behind " + hours, dryBehind(hours).clears(0), hours);
        }
        EDGES.due("41 are too many", dryBehind(41).clears(0), -1);
        LaundrySky sky = dryBehind(41);
        sky.take(0);
        EDGES.due("0: nothing hangs", sky.clears(0), 0);
        LaundrySky two = Due.sky("line a pegs 9;place p under a;cloth c sock wet 3;cloth d skirt wet 5;dries 1;");
        two.hang(0, 0, 1);
        two.hang(1, 0, 1);
        EDGES.due("when the last is dry", two.clears(0), 5);
    }

    private static void wanted() {
        EDGES.terms("WANTED: a WEATHER (or none) of a PLACE; a later one in place of the elder.");
        LaundrySky sky = Due.sky("line a pegs 9;place p under a;cloth c sock wet 1;cloth d skirt wet 1;");
        EDGES.due("a sock's", sky.want(0, 3), true);
        EDGES.due("by the sock", sky.wish(0), 0);
        EDGES.due("a skirt's", sky.want(0, 2), true);
        EDGES.due("by the skirt", sky.wish(1), 0);
        EDGES.due("by no sock", sky.wish(0), -1);
        EDGES.due("none", sky.want(0, -1), true);
        EDGES.due("it has none", sky.wish(-1), 0);
        sky.hang(0, 0, 1);
        EDGES.due("it has some", sky.wish(-1), -2);
        EDGES.due("one place", sky.count(7), 1);
    }

    private static void wishHanging() {
        EDGES.terms("WISH: the fewest CLOTHS that do not hang");
        LaundrySky sky = Due.sky("line a pegs 9;line b pegs 9;place p under a;place q under b;cloth c sock wet 9;"
            + "cloth d sock wet 9;");
        EDGES.due("nothing is wanted", sky.wish(-1), 0);
        sky.want(0, 3);
        EDGES.due("one", sky.wish(-1), 1);
        sky.hang(0, 1, 1);
        EDGES.due("one that does not hang", sky.wish(-1), 1);
        EDGES.due("not the one that hangs", sky.wish(0), -1);
        EDGES.due("the other one", sky.wish(1), 0);
        sky.hang(1, 1, 1);
        EDGES.due("all hang elsewhere", sky.wish(-1), -2);
        sky.want(0, -1);
        EDGES.due("it is so already", sky.wish(-1), 0);
        LaundrySky dry = Due.sky("line a pegs 9;place p under a;cloth c sock wet 1;cloth d sock wet 9;");
        dry.hang(0, 0, 1);
        dry.hour();
        dry.take(0);
        dry.want(0, 3);
        EDGES.due("a dry one brings no weather", dry.wish(0), -1);
        EDGES.due("one that is wet does", dry.wish(1), 0);
    }

    private static void wishByOnePeg() {
        EDGES.terms("each hung now by one peg");
        LaundrySky sky = Due.sky("line a pegs 4;place p under a;cloth c sock wet 9;cloth d sock wet 9;cloth e skirt wet 9;"
            + "cloth f sheet wet 1;");
        sky.want(0, 3);
        sky.hang(2, 0, 2);
        EDGES.due("two pegs are free for two", sky.wish(-1), 2);
        sky.undo();
        sky.hang(2, 0, 3);
        EDGES.due("one peg is free, for one", sky.wish(-1), -2);
        sky.undo();
        sky.hang(3, 0, 3);
        EDGES.due("one peg is free: a sock outranks a sheet", sky.wish(-1), 1);
        LaundrySky full = Due.sky("line a pegs 3;place p under a;cloth c sock wet 9;cloth d sheet wet 1;");
        full.hang(1, 0, 3);
        full.want(0, 3);
        EDGES.due("none is free", full.wish(-1), -2);
    }

    private static void wishAll() {
        EDGES.terms("by which all that is WANTED is so");
        LaundrySky sky = Due.sky("line a pegs 9;line b pegs 9;line c pegs 9;line d pegs 9;place p under a;place q under b;"
            + "place r under c;place s under d;cloth m sheet wet 1;cloth n shirt wet 1;cloth o skirt wet 1;"
            + "cloth t sock wet 1;");
        for (int place = 0; place < 4; place++) {
            sky.want(place, place);
            EDGES.due("one more", sky.wish(-1), place + 1);
        }
        for (int cloth = 0; cloth < 4; cloth++) {
            EDGES.due("each on its line", sky.wish(cloth), cloth);
        }
        sky.want(3, 0);
        EDGES.due("one sheet for two places", sky.wish(-1), -2);
        EDGES.due("by none, of a cloth", sky.wish(0), -2);
        sky.want(3, -1);
        EDGES.due("none wanted is none hung", sky.wish(-1), 3);
        LaundrySky six = Due.sky("line a pegs 3;line b pegs 1;line c pegs 1;line d pegs 1;line e pegs 9;place p under a b c;"
            + "place q under b;place r under c;place s under d;cloth m shirt wet 9;cloth n skirt wet 9;cloth o shirt wet 9;"
            + "cloth t shirt wet 9;cloth u sheet wet 9;cloth v skirt wet 9;");
        int[] wanted = {1, 2, 2, 0};
        for (int place = 0; place < 4; place++) {
            six.want(place, wanted[place]);
        }
        EDGES.due("all six", six.wish(-1), 6);
        int[] row = {0, 1, 0, 0, 3, 2};
        for (int cloth = 0; cloth < 6; cloth++) {
            EDGES.due("the line of cloth " + cloth, six.wish(cloth), row[cloth]);
        }
    }

    private static void wishRows() {
        EDGES.terms("of equal ones the first row (of CLOTHS, by numbers, of LINES; not hung comes behind all others)");
        LaundrySky sky = Due.sky("line a pegs 1;line b pegs 1;line c pegs 1;place p under a b c;cloth m sock wet 9;"
            + "cloth n sock wet 9;cloth o sheet wet 9;");
        sky.want(0, 3);
        EDGES.due("the first cloth on the first line", sky.wish(0), 0);
        EDGES.due("the others are not hung", sky.wish(1) + sky.wish(2), -2);
        sky.hang(2, 0, 1);
        EDGES.due("on the first line with a peg", sky.wish(0), 1);
        sky.hang(0, 1, 1);
        sky.take(2);
        sky.want(0, 0);
        EDGES.due("one sheet against a sock", sky.wish(-1), -2);
        LaundrySky two = Due.sky("line a pegs 1;line b pegs 9;place p under a b;cloth m shirt wet 9;cloth n skirt wet 9;"
            + "cloth o shirt wet 9;cloth q shirt wet 9;");
        two.hang(1, 1, 1);
        two.want(0, 1);
        EDGES.due("two shirts against a skirt", two.wish(-1), 2);
        EDGES.due("the first on the first line", two.wish(0), 0);
        EDGES.due("it hangs already", two.wish(1), -1);
        EDGES.due("the second where pegs are free", two.wish(2), 1);
        EDGES.due("the third not", two.wish(3), -1);
    }

    private static void lift() {
        EDGES.terms("LIFT for a PLACE and a WEATHER: the fewest CLOTHS to be TAKEN down so that it has that; of equal ones "
            + "the least set (bits).");
        LaundrySky sky = Due.sky("line a pegs 9;line b pegs 9;place p under a;cloth m sock wet 9;cloth n sock wet 9;"
            + "cloth o sheet wet 9;cloth q sock wet 9;cloth r sheet wet 1;cloth s sock wet 9;dries 1;");
        EDGES.due("nothing hangs, nothing is due", sky.lift(0, -1), 0);
        EDGES.due("nothing hangs", sky.lift(0, 3), -1);
        sky.hang(5, 1, 1);
        sky.hang(4, 0, 1);
        sky.hour();
        EDGES.due("a dry one need not be taken", sky.lift(0, -1), 0);
        EDGES.due("a dry one is no snow", sky.lift(0, 0), -1);
        sky.hang(0, 0, 1);
        sky.hang(2, 0, 1);
        sky.hang(1, 0, 1);
        sky.hang(3, 0, 1);
        EDGES.due("it has that", sky.lift(0, 3), 0);
        EDGES.due("all three socks, not two: a sock outranks", sky.lift(0, 0), 1 + 2 + 8);
        EDGES.due("all that are wet", sky.lift(0, -1), 1 + 2 + 4 + 8);
        EDGES.due("by none", sky.lift(0, 2), -1);
        LaundrySky even = Due.sky("line a pegs 9;place p under a;cloth m shirt wet 9;cloth n sheet wet 9;cloth o shirt wet 9;"
            + "cloth q sheet wet 9;");
        for (int cloth = 0; cloth < 4; cloth++) {
            even.hang(cloth, 0, 1);
        }
        EDGES.due("a sheet, the least", even.lift(0, 1), 2);
        even.take(1);
        EDGES.due("two shirts are more", even.lift(0, 1), 0);
        EDGES.due("a shirt, the least", even.lift(0, 0), 1);
        LaundrySky full = fullStreet();
        hangAll(full, 0, 1);
        EDGES.due("all six", full.lift(0, -1), 63);
        EDGES.due("none", full.lift(3, -1), 0);
    }

    /** As many lines, places and cloths as can be; place i is below line i, a sock and a shirt come last. */
    private static LaundrySky fullStreet() {
        return Due.sky("line a pegs 9;line b pegs 9;line c pegs 9;line d pegs 9;line e pegs 9;place p under a;place q under b;"
            + "place r under c;place s under d e;cloth u skirt wet 9;cloth v sheet wet 9;cloth w sheet wet 9;"
            + "cloth x sheet wet 9;cloth y sock wet 9;cloth z shirt wet 9;crosses d e;");
    }

    private static void hangAll(LaundrySky sky, int line, int pegs) {
        for (int cloth = 0; cloth < 6; cloth++) {
            sky.hang(cloth, line, pegs);
        }
    }

    private static void told() {
        EDGES.terms("TOLD: what WEATHER (or none) a PLACE would have behind so many (0 to 12) HOURS");
        LaundrySky sky = dryBehind(12);
        EDGES.due("-1", sky.tell(0, -1, 3), false);
        EDGES.due("13", sky.tell(0, 13, -1), false);
        EDGES.due("none so far", sky.count(9), 0);
        EDGES.due("0", sky.tell(0, 0, 2), true);
        EDGES.due("the skirt it is", sky.pairs(1), 2);
        EDGES.due("11", sky.tell(0, 11, 2), true);
        EDGES.due("the skirt it is", sky.pairs(1), 2);
        EDGES.due("12", sky.tell(0, 12, -1), true);
        EDGES.due("dry by then", sky.pairs(1), 2);
        EDGES.due("12, another thing", sky.tell(0, 12, 2), true);
        EDGES.due("by no pair", sky.pairs(0), 0);
        LaundrySky first = dryBehind(12);
        first.tell(0, 12, 2);
        EDGES.due("the latest hour, told first", first.pairs(0), 0);
        first.tell(0, 0, 2);
        EDGES.due("and then another", first.pairs(0), 0);
    }

    private static void toldUnknown() {
        EDGES.terms("if just one CLOTH, an unknown one that does not hang, had been hung now by one peg on an unknown LINE "
            + "where one is free");
        LaundrySky sky = Due.sky("line a pegs 3;line b pegs 1;line c pegs 2;place p under a;cloth m sock wet 9;"
            + "cloth n skirt wet 9;cloth o sheet wet 9;");
        EDGES.due("three on three", sky.pairs(0), 9);
        sky.hang(0, 0, 2);
        EDGES.due("one hangs, a peg is free", sky.pairs(0), 6);
        sky.hang(1, 1, 1);
        EDGES.due("one line is full", sky.pairs(0), 2);
        EDGES.due("the last cloth", sky.pairs(1), 4);
        EDGES.due("the other lines", sky.pairs(2), 5);
        sky.hang(2, 0, 1);
        EDGES.due("all hang", sky.pairs(0) + sky.pairs(1) + sky.pairs(2), 0);
        LaundrySky peg = Due.sky("line a pegs 3;place p under a;cloth m sock wet 2;dries loose;");
        peg.tell(0, 1, -1);
        EDGES.due("by one peg it is as loose as can be", peg.pairs(0), 1);
        peg.hour();
        EDGES.due("now is when it is asked", peg.pairs(0), 1);
        LaundrySky looser = Due.sky("line a pegs 3;place p under a;cloth m sock wet 3;dries loose;");
        looser.tell(0, 1, 3);
        EDGES.due("and no looser", looser.pairs(0), 1);
        looser.tell(0, 2, -1);
        EDGES.due("and no less loose", looser.pairs(0), 1);
    }

    private static void toldSix() {
        EDGES.terms("6 at most");
        LaundrySky sky = dryBehind(12);
        for (int told = 1; told <= 6; told++) {
            EDGES.due("tell", sky.tell(0, 0, 3), true);
            EDGES.due("told", sky.count(9), told);
        }
        String before = Edges.all(sky);
        EDGES.due("a seventh", sky.tell(0, 0, 2), false);
        EDGES.stays("nothing is done", sky, before);
    }

    private static void pairs() {
        EDGES.terms("PAIRS of a CLOTH and a LINE by which all TOLD is so: how many; the CLOTHS of these, their LINES (bits).");
        StringBuilder text = new StringBuilder();
        for (char line = 'a'; line <= 'e'; line++) {
            text.append("line ").append(line).append(" pegs 9;");
        }
        text.append("place p under e;");
        for (char cloth = 's'; cloth <= 'x'; cloth++) {
            text.append("cloth ").append(cloth).append(cloth < 'x' ? " sheet wet 9;" : " sock wet 9;");
        }
        LaundrySky sky = Due.sky(text.toString());
        EDGES.due("all", sky.pairs(0), 30);
        EDGES.due("cloths", sky.pairs(1), 63);
        EDGES.due("lines", sky.pairs(2), 31);
        sky.tell(0, 0, 3);
        EDGES.due("one", sky.pairs(0), 1);
        EDGES.due("the last cloth", sky.pairs(1), 32);
        EDGES.due("the last line", sky.pairs(2), 16);
        sky.tell(0, 1, 0);
        EDGES.due("none", sky.pairs(0) + sky.pairs(1) + sky.pairs(2), 0);
        EDGES.due("nothing at all", new LaundrySky().pairs(0), 0);
    }

    private static void look() {
        EDGES.terms("LOOK at so many (0 to 12) HOURS");
        LaundrySky sky = Due.sky("line a pegs 9;place p under a;cloth m sock wet 2;cloth n sock wet 20;dries 2 * (clock = 11);");
        EDGES.due("0", sky.look(0), -1);
        EDGES.due("11", sky.look(11), -1);
        EDGES.due("12", sky.look(12), 0);
        EDGES.due("13 would part them, too", sky.look(13), -1);
        LaundrySky now = Due.sky("line a pegs 9;place p under a;cloth m sock wet 2;cloth n skirt wet 2;");
        EDGES.due("0", now.look(0), 0);
        EDGES.due("1, when all are dry", now.look(1), -1);
        EDGES.due("-1", now.look(-1), -1);
    }

    private static void lookParts() {
        EDGES.terms("the PLACE by which the greatest number of PAIRS with the like WEATHER then is the least, if that is "
            + "less than all; of equal ones the first.");
        LaundrySky sky = Due.sky("line a pegs 9;line b pegs 9;line c pegs 9;place p under a b c;place q under a;"
            + "place r under a b;place s under c;cloth m sock wet 9;");
        EDGES.due("the first does not part them, the second by 2, as r and s do", sky.look(0), 1);
        sky.tell(3, 0, -1);
        EDGES.due("of two pairs the second place parts one each", sky.look(0), 1);
        sky.tell(1, 0, -1);
        EDGES.due("one pair is parted by none", sky.look(0), -1);
        sky.tell(1, 0, 3);
        EDGES.due("no pair is parted by none", sky.look(0), -1);
        LaundrySky more = Due.sky("line a pegs 9;line b pegs 9;line c pegs 9;place p under a;place q under a;place r under a b;"
            + "cloth m sock wet 9;cloth n skirt wet 9;");
        // p: 4 of 6 have none; r: 2 each
        EDGES.due("the least of the greatest", more.look(0), 2);
        EDGES.due("no place", Due.sky("line a pegs 9;cloth m sock wet 9;cloth n skirt wet 9;").look(0), -1);
        // s: of 30 pairs 18 have none, 24 elsewhere
        EDGES.due("the last place of a full street", fullStreet().look(0), 3);
    }

    private static LaundrySky crossed() {
        return Due.sky("line a pegs 9;line b pegs 9;line c pegs 9;cloth m shirt wet 1;cloth n sock wet 9;cloth o shirt wet 9;"
            + "cloth q sheet wet 9;crosses a b;dries 1;");
    }

    private static void crossing(LaundrySky sky, String what, int rainbows, int quarrels) {
        EDGES.due(what + ": rainbows", sky.rainbows(), rainbows);
        EDGES.due(what + ": quarrels", sky.quarrels(), quarrels);
    }

    private static void rainbows() {
        EDGES.terms("RAINBOWS: pairs of LINES that cross, with a WET shirt on one of them and a WET CLOTH that is no shirt on "
            + "the other one.");
        LaundrySky sky = crossed();
        sky.hang(0, 0, 1);
        crossing(sky, "a shirt alone", 0, 0);
        sky.hang(1, 0, 1);
        crossing(sky, "both on one line", 0, 0);
        sky.take(1);
        sky.hang(1, 2, 1);
        crossing(sky, "the other on a line that is not crossed", 0, 0);
        sky.take(1);
        sky.hang(1, 1, 1);
        crossing(sky, "a rainbow", 1, 0);
        sky.hour();
        crossing(sky, "the shirt is dry", 0, 0);
        sky.hang(2, 1, 1);
        crossing(sky, "shirt and sock on one, a dry one on the other", 0, 0);
        LaundrySky turned = crossed();
        turned.hang(0, 1, 1);
        turned.hang(1, 0, 1);
        crossing(turned, "the other way about", 1, 0);
        turned.hang(2, 0, 1);
        turned.hang(3, 1, 1);
        crossing(turned, "both ways at once are one pair", 1, 0);
        LaundrySky full = fullStreet();
        full.hang(5, 4, 1);
        full.hang(0, 3, 1);
        crossing(full, "the last cloth on the last line", 1, 0);
    }

    private static void quarrels() {
        EDGES.terms("QUARRELS: pairs that cross with WET CLOTHS on both, and are no RAINBOW.");
        LaundrySky sky = crossed();
        sky.hang(0, 0, 1);
        sky.hang(2, 1, 1);
        crossing(sky, "two shirts", 0, 1);
        sky.hour();
        crossing(sky, "one is dry", 0, 0);
        sky.hang(1, 0, 1);
        crossing(sky, "a sock there", 1, 0);
        sky.take(2);
        sky.hang(3, 1, 1);
        crossing(sky, "sock and sheet", 0, 1);
        sky.take(3);
        sky.hang(3, 2, 1);
        crossing(sky, "no crossing", 0, 0);
        StringBuilder text = new StringBuilder();
        for (char line = 'a'; line <= 'e'; line++) {
            text.append("line ").append(line).append(" pegs 9;cloth ").append((char) (line + 10)).append(" sock wet 9;");
            for (char other = 'a'; other < line; other++) {
                text.append("crosses ").append(line).append(' ').append(other).append(';');
            }
        }
        LaundrySky all = Due.sky(text.toString());
        for (int line = 0; line < 5; line++) {
            all.hang(line, line, 1);
            crossing(all, "as many as there are pairs", 0, line * (line + 1) / 2);
        }
    }

    private static void best() {
        EDGES.terms("BEST for a CLOTH that does not hang: the LINE where a peg is free on which, by one peg, it would change "
            + "the WEATHER of the most PLACES now, if of any; of equal ones the first.");
        LaundrySky sky = Due.sky("line a pegs 1;line b pegs 9;line c pegs 9;line d pegs 2;line e pegs 9;place p under b d;"
            + "place q under c d e;place r under a;cloth m sock wet 1;cloth n sheet wet 9;cloth o skirt wet 9;dries 1;");
        EDGES.due("two places", sky.best(0), 3);
        sky.hang(1, 3, 2);
        EDGES.due("no peg is free there, of equal ones the first", sky.best(0), 0);
        sky.hang(2, 0, 1);
        EDGES.due("nor there", sky.best(0), 1);
        EDGES.due("it hangs", sky.best(1), -1);
        sky.take(1);
        sky.hang(1, 3, 1);
        EDGES.due("one peg is free", sky.best(0), 3);
        sky.take(2);
        sky.wash(2);
        sky.hang(0, 1, 1);
        sky.hour();
        sky.take(0);
        EDGES.due("a dry one changes none", sky.best(0), -1);
        sky.take(1);
        sky.hang(2, 3, 1);
        sky.wash(0);
        EDGES.due("one place, where nothing is", sky.best(0), 0);
        sky.hang(0, 0, 1);
        EDGES.due("thunder changes for none", sky.best(1), -1);
        EDGES.due("no place", Due.sky("line a pegs 9;cloth m sock wet 9;").best(0), -1);
        LaundrySky full = fullStreet();
        for (int cloth = 0; cloth < 3; cloth++) {
            full.hang(cloth, cloth, 1);
        }
        EDGES.due("the last place of four, the first line above it", full.best(5), 3);
    }

    private static void owes() {
        EDGES.terms("OWES: the CLOTH that hangs by which, TAKEN down, the WEATHER of a PLACE would be another one; the first.");
        LaundrySky sky = Due.sky("line a pegs 9;line b pegs 9;place p under a;cloth m sheet wet 1;cloth n sock wet 9;"
            + "cloth o sock wet 9;cloth q skirt wet 9;dries 1;");
        EDGES.due("none hangs", sky.owes(0), -1);
        sky.hang(0, 1, 1);
        EDGES.due("none hangs there", sky.owes(0), -1);
        sky.take(0);
        sky.hang(0, 0, 1);
        EDGES.due("the one", sky.owes(0), 0);
        sky.hang(1, 0, 1);
        EDGES.due("a sock less and it snows", sky.owes(0), 1);
        sky.hang(2, 0, 1);
        EDGES.due("of two against a sheet neither", sky.owes(0), -1);
        sky.hang(3, 0, 1);
        EDGES.due("of two against a skirt the first", sky.owes(0), 1);
        sky.take(1);
        sky.take(2);
        sky.take(3);
        sky.hour();
        EDGES.due("a dry one makes none", sky.owes(0), -1);
        LaundrySky full = fullStreet();
        full.hang(5, 4, 1);
        EDGES.due("the last cloth, the last place", full.owes(3), 5);
    }

    private static void chance() {
        EDGES.terms("CHANCE: in each of so many (1 to 6) HOURS all dry by odds of ten as told, else not at all");
        LaundrySky sky = Due.sky("line a pegs 9;cloth m sock wet 6;cloth n sock wet 1;cloth o sock wet 1;dries 1;");
        sky.hang(0, 0, 1);
        sky.hang(1, 0, 1);
        EDGES.due("no hour", sky.chance(1, 0, 5), -1);
        EDGES.due("seven", sky.chance(1, 7, 5), -1);
        EDGES.due("one", sky.chance(1, 1, 3), 300000);
        EDGES.due("six", sky.chance(1, 6, 5), 984375);
        EDGES.due("all six", sky.chance(0, 6, 5), 15625);
        EDGES.due("not in five", sky.chance(0, 5, 10), 0);
        EDGES.due("surely", sky.chance(0, 6, 10), 1000000);
        EDGES.due("odds of 0", sky.chance(1, 6, 0), 0);
        EDGES.due("odds of -1", sky.chance(1, 1, -1), -1);
        EDGES.due("odds of 10", sky.chance(1, 1, 10), 1000000);
        EDGES.due("odds of 11", sky.chance(1, 1, 11), -1);
        EDGES.due("it does not hang", sky.chance(2, 1, 10), -1);
        // all dry or none: both are dry in the same hours, so the shirt's sun is there for the sock or nothing is
        LaundrySky sun = Due.sky("line a pegs 9;cloth m sock wet 2;cloth n shirt wet 1;dries 1 + sun;");
        sun.hang(0, 0, 1);
        sun.hang(1, 0, 1);
        EDGES.due("in one hour both", sun.chance(0, 1, 4), 400000);
        EDGES.due("in two", sun.chance(0, 2, 4), 640000);
        LaundrySky clock = Due.sky("line a pegs 9;cloth m sock wet 1;dries clock = 5;");
        clock.hang(0, 0, 1);
        EDGES.due("it is the next hour, too, if nothing dries", clock.chance(0, 6, 7), 700000);
        EDGES.due("and no hour ahead of it dries", clock.chance(0, 5, 10), 0);
    }

    private static void chanceCut() {
        EDGES.terms("that a CLOTH that hangs is not WET behind these, in millionths, cut");
        LaundrySky sky = Due.sky("line a pegs 9;cloth m sock wet 1;dries 1;");
        sky.hang(0, 0, 1);
        EDGES.due("one in a million is not", sky.chance(0, 6, 9), 999999);
        EDGES.due("9 to the sixth are not", sky.chance(0, 6, 1), 1000000 - 531441);
        LaundrySky six = Due.sky("line a pegs 9;cloth m sock wet 6;dries 1;");
        six.hang(0, 0, 1);
        EDGES.due("one in a million", six.chance(0, 6, 1), 1);
        sky.hour();
        EDGES.due("not wet now", sky.chance(0, 1, 0), 1000000);
    }

    private static void same() {
        EDGES.terms("SAME: pairs of PLACES with the same WEATHER now.");
        LaundrySky sky = Due.sky("line a pegs 9;line b pegs 9;line c pegs 9;line d pegs 9;place p under a;place q under b;"
            + "place r under c;place s under d;cloth m sock wet 9;cloth n sock wet 9;cloth o sheet wet 9;cloth t shirt wet 9;");
        EDGES.due("nothing is the same, too", sky.same(), 6);
        sky.hang(0, 0, 1);
        EDGES.due("three have nothing", sky.same(), 3);
        sky.hang(1, 1, 1);
        EDGES.due("two and two", sky.same(), 2);
        sky.hang(2, 2, 1);
        EDGES.due("two", sky.same(), 1);
        sky.take(1);
        sky.hang(3, 1, 1);
        EDGES.due("all others", sky.same(), 0);
        EDGES.due("one place", Due.sky("line a pegs 1;place p under a;").same(), 0);
        EDGES.due("no place", new LaundrySky().same(), 0);
    }

    private static void storm() {
        EDGES.terms("STORM: the PLACE of the most WIND; of equal ones the first.");
        LaundrySky sky = Due.sky("line a pegs 9;line b pegs 9;place p under a;place q under b;cloth m sock wet 9;"
            + "cloth n sock wet 9;cloth o sock wet 9;");
        EDGES.due("no wind at all", sky.storm(), 0);
        sky.hang(0, 1, 3);
        EDGES.due("by three pegs no wind", sky.storm(), 0);
        sky.hang(1, 1, 2);
        EDGES.due("the second", sky.storm(), 1);
        sky.hang(2, 0, 2);
        EDGES.due("of equal ones the first", sky.storm(), 0);
        EDGES.due("no place", Due.sky("line a pegs 9;").storm(), -1);
        LaundrySky full = fullStreet();
        full.hang(0, 2, 2);
        EDGES.due("the wind of the first cloth", full.storm(), 2);
        full.hang(5, 4, 1);
        EDGES.due("of the last cloth in the last place", full.storm(), 3);
    }

    private static void last() {
        EDGES.terms("LAST: the CLOTH that hangs and is WET the longest, by DRY; of equal ones the first.");
        LaundrySky sky = Due.sky("line a pegs 9;cloth m sock wet 3;cloth n sock wet 5;cloth o sheet wet 5;cloth q shirt wet 20;"
            + "cloth r shirt wet 9;dries damp < 20;");
        EDGES.due("none hangs", sky.last(), -1);
        sky.hang(3, 0, 1);
        EDGES.due("none has a dry", sky.last(), -1);
        sky.hang(0, 0, 1);
        EDGES.due("one has", sky.last(), 0);
        sky.hang(2, 0, 1);
        EDGES.due("a longer one", sky.last(), 2);
        sky.hang(1, 0, 1);
        EDGES.due("of equal ones the first", sky.last(), 1);
        for (int hour = 0; hour < 5; hour++) {
            sky.hour();
        }
        EDGES.due("all have a dry of 0 or none", sky.last(), 0);
        sky.hang(4, 0, 1);
        EDGES.due("one is wet", sky.last(), 4);
        LaundrySky full = fullStreet();
        hangAll(full, 0, 1);
        full.take(0);
        full.hang(0, 1, 3);
        EDGES.due("the first cloth", full.last(), 0);
        full.take(5);
        full.hang(5, 2, 3);
        full.take(0);
        EDGES.due("the last cloth", full.last(), 5);
        EDGES.due("40", dryBehind(40).last(), 0);
        EDGES.due("41", dryBehind(41).last(), -1);
    }

    private static void hanging() {
        EDGES.terms("both hang: each gets so much (0 to 9); one hangs: he loses so much (0 to 9), the other one gets so much "
            + "(0 to 9)");
        LaundrySky sky = new LaundrySky();
        for (int i = 0; i <= 9; i += 9) {
            for (int j = 0; j <= 9; j += 9) {
                for (int k = 0; k <= 9; k += 9) {
                    EDGES.due("within", sky.rests(i, j, k, -1) > 0, true);
                }
            }
        }
        for (int beyond : new int[] {-1, 10, Integer.MIN_VALUE, Integer.MAX_VALUE}) {
            EDGES.noSuch(beyond, 0, 0, -1);
            EDGES.noSuch(0, beyond, 0, -1);
            EDGES.noSuch(0, 0, beyond, -1);
        }
    }

    private static void rests() {
        EDGES.terms("both wait: nothing: RESTS: by which neither would get more by the other.");
        LaundrySky sky = new LaundrySky();
        for (int both = 0; both <= 9; both++) {
            for (int loses = 0; loses <= 9; loses++) {
                for (int gets = 0; gets <= 9; gets++) {
                    // to wait against one who waits is never worse; to hang is as good if he loses nothing
                    boolean one = loses == 0 && gets >= both;
                    boolean hang = both >= gets;
                    EDGES.due("how many", sky.rests(both, loses, gets, -1), 1 + (one ? 2 : 0) + (hang ? 1 : 0));
                    EDGES.due("both wait", sky.rests(both, loses, gets, 0), 0);
                    int next = 1;
                    if (one) {
                        EDGES.due("the other one hangs", sky.rests(both, loses, gets, 1), 1);
                        EDGES.due("the first one hangs", sky.rests(both, loses, gets, 2), 2);
                        next = 3;
                    }
                    if (hang) {
                        EDGES.due("both hang", sky.rests(both, loses, gets, next), 3);
                        next++;
                    }
                    EDGES.noSuch(both, loses, gets, next);
                }
            }
        }
    }

    private static void draw() {
        EDGES.terms("A DRAW below m: g becomes (g * 1103515245 + 12345) modulo 2147483648 (g is the SEED at first); it is g / "
            + "65536, cut, modulo m.");
        StringBuilder text = new StringBuilder();
        for (char line = 'a'; line <= 'e'; line++) {
            text.append("line ").append(line).append(" pegs 9;");
        }
        for (char cloth = 's'; cloth <= 'x'; cloth++) {
            text.append("cloth ").append(cloth).append(" skirt wet 20;");
        }
        LaundrySky sky = Due.sky(text + "place p under a;place q under b;place r under d;dries 0;");
        // g / 65536 is 4241, 233, 22049 (cloth 5, line 3 by 3), 17954, 28191, 15727 (cloth 2, line 1 by 2),
        // 30323 (cloth 5 hangs), 18459, 14156, 30186 (cloth 3, line 1 by 1)
        int[] last = {32, 32 + 4, 32 + 4, 32 + 4 + 8};
        int[] hung = {1, 2, 2, 3};
        for (int hours = 1; hours <= 4; hours++) {
            EDGES.due("the greatest seed, hours " + hours, sky.mays(9999, hours, 2), last[hours - 1]);
            EDGES.due("hung", sky.mays(9999, hours, 1), hung[hours - 1]);
        }
        EDGES.due("thunder in r at once", sky.mays(9999, 4, 0), 0);
        // 0, 21468, 9988 (cloth 0, line 3 by 2), 22117, 3498, 16927 (cloth 1, line 3 by 2), 16045, 19741, 12122
        // (cloth 1 hangs; cloth 1 hangs; cloth 2, ..)
        EDGES.due("the least seed", sky.mays(0, 1, 2), 1);
        EDGES.due("the least seed", sky.mays(0, 2, 2), 3);
        EDGES.due("the least seed", sky.mays(0, 4, 2), 3);
        EDGES.due("the least seed", sky.mays(0, 5, 2), 7);
    }

    private static void mays() {
        EDGES.terms("MAYS by a SEED of so many hours (1 to 99), from now on (all is as ahead then)");
        LaundrySky sky = Due.sky("line a pegs 9;place p under a;cloth m sock wet 9;");
        sky.hour();
        String before = Edges.all(sky);
        EDGES.due("none", sky.mays(0, 0, 0), -1);
        EDGES.due("one", sky.mays(0, 1, 0), 1);
        EDGES.due("99", sky.mays(0, 99, 0), 99);
        EDGES.due("100", sky.mays(0, 100, 0), -1);
        EDGES.stays("all is as ahead", sky, before);
        sky.hang(0, 0, 1);
        EDGES.due("from now on it hangs", sky.mays(0, 1, 1), 0);
        EDGES.due("from now on it hangs", sky.mays(0, 1, 2), 1);
        LaundrySky late = Due.sky("line a pegs 9;place p under a;cloth m skirt wet 1;dries clock = 3;");
        late.hour();
        late.hour();
        EDGES.due("thunder until the hour that is 3", late.mays(0, 1, 0), 0);
        EDGES.due("dry by it", late.mays(0, 2, 0), 1);
    }

    private static void maysEach() {
        EDGES.terms("each, if there are LINES and CLOTHS: a DRAW below CLOTHS: if it hangs it is TAKEN down if it is not WET; "
            + "else it is WASHED, and a DRAW below LINES, one below 3 and 1: it is HUNG there by so many pegs, if it can be; "
            + "then the HOUR");
        EDGES.due("nothing at all", new LaundrySky().mays(3, 99, 0), 99);
        LaundrySky lines = Due.sky("line a pegs 9;place p under a;");
        EDGES.due("lines alone", lines.mays(3, 99, 0) + lines.mays(3, 99, 1) + lines.mays(3, 99, 2), 99);
        LaundrySky cloths = Due.sky("cloth m sock wet 9;");
        EDGES.due("cloths alone", cloths.mays(3, 99, 0) + cloths.mays(3, 99, 1) + cloths.mays(3, 99, 2), 99);
        // one cloth: hung (1st hour), not taken down while it is wet (2nd), dry by then, taken down (3rd), washed, hung (4th)
        LaundrySky one = Due.sky("line a pegs 3;place p under a;cloth m skirt wet 2;dries 1;");
        int[] hangs = {1, 1, 0, 1, 1, 0, 1};
        int[] calm = {0, 1, 2, 2, 3, 4, 4};
        int[] often = {1, 1, 1, 2, 2, 2, 3};
        for (int hours = 1; hours <= 7; hours++) {
            EDGES.due("it hangs behind " + hours, one.mays(5, hours, 2), hangs[hours - 1]);
            EDGES.due("calm hours of " + hours, one.mays(5, hours, 0), calm[hours - 1]);
            EDGES.due("hung in " + hours, one.mays(5, hours, 1), often[hours - 1]);
        }
        // seed 0: the third draw is 9988, by 2 pegs: it can't be on a line of one; seed 1: 10113, by 1
        LaundrySky few = Due.sky("line a pegs 1;place p under a;cloth m skirt wet 2;dries 0;");
        EDGES.due("it can't be", few.mays(0, 1, 1), 0);
        EDGES.due("it can't be", few.mays(0, 1, 2), 0);
        EDGES.due("it can be", few.mays(1, 1, 1), 1);
        // washed first, though it can't be hung: seed 0 draws 0, 21468, 9988, then 22117, 3498, 16927 (by 2 again)
        EDGES.due("and again it can't", few.mays(0, 2, 1), 0);
    }

    private static void maysAnswers() {
        EDGES.terms("how many hours, behind which no PLACE has thunder; how often one was HUNG; CLOTHS that hang at last, as "
            + "bits.");
        LaundrySky sky = Due.sky("line a pegs 9;line b pegs 9;place p under b;cloth m skirt wet 20;dries 0;");
        // seed 1: cloth 0, line 5758 modulo 2 is 0, which is above no place
        EDGES.due("no place below it", sky.mays(1, 5, 0), 5);
        EDGES.due("hung once", sky.mays(1, 5, 1), 1);
        EDGES.due("it hangs at last", sky.mays(1, 5, 2), 1);
        // seed 2: 908, 22817: line 1
        EDGES.due("thunder in each", sky.mays(2, 5, 0), 0);
        LaundrySky dry = Due.sky("line a pegs 9;place p under a;cloth m skirt wet 1;dries 9;");
        EDGES.due("a skirt that is dry behind its hour", dry.mays(2, 99, 0), 99);
        EDGES.due("hung every other hour", dry.mays(2, 99, 1), 50);
        EDGES.due("at last", dry.mays(2, 99, 2), 1);
        EDGES.due("taken down at last", dry.mays(2, 98, 2), 0);
        LaundrySky full = Due.sky("line a pegs 9;line b pegs 9;place p under a;place q under a;place r under a;place s under b;"
            + "cloth m skirt wet 20;dries 0;");
        EDGES.due("hung on b: thunder in the last", full.mays(2, 5, 0), 0);
        full.hang(0, 1, 1);
        EDGES.due("it hangs there: thunder in the last", full.mays(1, 5, 0), 0);
        full.take(0);
        EDGES.due("in the first three", full.mays(1, 5, 0), 0);
        LaundrySky calm = Due.sky("line a pegs 9;place p under a;place q under a;place r under a;place s under a;"
            + "cloth m sock wet 20;");
        EDGES.due("in none of four", calm.mays(1, 9, 0), 9);
    }

    private static void marks() {
        EDGES.terms("MARKS 0 to 3");
        LaundrySky sky = new LaundrySky();
        for (int mark : new int[] {-1, 4, Integer.MIN_VALUE, Integer.MAX_VALUE}) {
            EDGES.due("none such", sky.mark(mark, false), false);
            EDGES.due("none such", sky.mark(mark, true), false);
        }
        for (int mark = 0; mark < 4; mark++) {
            EDGES.due("nothing is on it", sky.mark(mark, true), false);
            EDGES.due("laid", sky.mark(mark, false), true);
            sky.hour();
        }
        for (int mark = 0; mark < 4; mark++) {
            EDGES.due("gone back to", sky.mark(mark, true), true);
            EDGES.due("each has its own", sky.count(3), mark);
        }
    }

    private static void marksHold() {
        EDGES.terms("hold all that UNDO brings back, what is WANTED, TOLD (nothing can be undone when one is gone back to)");
        LaundrySky sky = Due.sky("line a pegs 9;line b pegs 9;place p under a;cloth m sock wet 9;cloth n skirt wet 9;");
        sky.hang(0, 0, 2);
        sky.hour();
        sky.want(0, 2);
        sky.tell(0, 1, 3);
        sky.mark(1, false);
        sky.hour();
        sky.undo();
        sky.undo();
        sky.undo();
        EDGES.due("all is undone", sky.count(10), 0);
        sky.want(0, 3);
        sky.tell(0, 2, 2);
        sky.mark(1, true);
        EDGES.due("a place", sky.count(7), 1);
        EDGES.due("what was wanted of it", sky.wish(-1) * 10 + sky.wish(1), 10);
        EDGES.due("what was told", sky.count(9), 1);
        EDGES.due("by the skirt, not above p", sky.pairs(0), 1);
        EDGES.due("on b", sky.pairs(2), 2);
        String marked = Edges.all(sky);
        EDGES.due("it hangs by two", sky.cloth(0, 3), 2);
        EDGES.due("as wet", sky.cloth(0, 1), 7);
        EDGES.due("the hour", sky.count(3), 1);
        EDGES.due("nothing can be undone", sky.undo(), false);
        sky.take(0);
        sky.wash(0);
        sky.hang(0, 1, 3);
        sky.hang(1, 0, 3);
        sky.hour();
        sky.want(0, -1);
        sky.tell(0, 0, 0);
        EDGES.due("back", sky.mark(1, true), true);
        EDGES.stays("as it was", sky, marked);
        EDGES.due("nothing can be undone", sky.undo(), false);
        EDGES.stays("as it was", sky, marked);
        tellingsHeld();
    }

    /** Two marks with other things TOLD: each has its own place, hours and weather. */
    private static void tellingsHeld() {
        LaundrySky sky = Due.sky("line a pegs 9;line b pegs 9;place p under a;place q under b;cloth m sock wet 1;"
            + "cloth n skirt wet 9;cloth o sock wet 9;dries 1;");
        sky.tell(1, 1, 3);
        sky.mark(0, false);
        sky.mark(3, false);
        sky.want(0, 2);
        sky.tell(0, 0, 2);
        sky.mark(1, false);
        EDGES.due("both", sky.pairs(0), 0);
        sky.mark(0, true);
        EDGES.due("the sock that is wet behind an hour", sky.pairs(1), 4);
        EDGES.due("on b", sky.pairs(2), 2);
        sky.tell(1, 0, -1);
        EDGES.due("told too", sky.pairs(0), 0);
        sky.mark(3, true);
        sky.tell(0, 0, -1);
        EDGES.due("nothing else was told then", sky.pairs(1), 4);
        sky.mark(1, true);
        EDGES.due("two things were", sky.count(9), 2);
        EDGES.due("which can't be both", sky.pairs(0), 0);
        EDGES.due("and one was wanted", sky.wish(1), 0);
        sky.mark(0, true);
        EDGES.due("nothing was", sky.count(7), 0);
    }
}
