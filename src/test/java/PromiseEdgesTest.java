/** The edges that the promises themselves name: what others are, what is refused, and what is answered then. */
public final class PromiseEdgesTest {
    private static final Edges EDGES = new Edges();
    private static final int[] BESIDE = {Integer.MIN_VALUE, Integer.MIN_VALUE + 1, -65536, -32, -3, 64, 99, 256, 65536,
        Integer.MAX_VALUE - 1, Integer.MAX_VALUE};
    private static final String STREET = "line a pegs 4;line b pegs 2;line c pegs 1;place p under a;place q under a b;"
        + "cloth sa sheet wet 4;cloth ba shirt wet 5;cloth ra skirt wet 6;cloth so sock wet 1;crosses a b;crosses c b;";

    public static void main(String[] args) {
        newObject();
        feed();
        reading();
        line();
        cloth();
        place();
        hang();
        take();
        wash();
        hour();
        undo();
        judged();
        later();
        dryAndClears();
        want();
        wish();
        lift();
        tell();
        pairsAndLook();
        crossings();
        best();
        owes();
        chance();
        sameAndStorm();
        last();
        rests();
        mays();
        mark();
        count();
        EDGES.due("promises with an edge tested", EDGES.promises().size(), 34);
        EDGES.end("PromiseEdgesTest");
    }

    /** A street at its third hour: a sheet on a by 1, a shirt on a by 3; wanted, told, a morning; a tape begun. */
    private static LaundrySky busy() {
        LaundrySky sky = Due.sky(STREET);
        Due.type(sky, "hang ra a 1;hour;take sa;");
        sky.morning();
        sky.hour();
        sky.hour();
        sky.hang(0, 0, 1);
        sky.hang(1, 0, 3);
        sky.want(1, 0);
        sky.tell(1, 0, 2);
        Due.type(sky, "ab");
        return sky;
    }

    /** Skies in which a call may be refused: a new one, an empty street, a busy one. */
    private static LaundrySky[] skies() {
        LaundrySky empty = new LaundrySky();
        empty.street();
        return new LaundrySky[] {new LaundrySky(), empty, busy()};
    }

    private static void newObject() {
        EDGES.promise(1, "`LaundrySky()`: Nothing.");
        LaundrySky sky = new LaundrySky();
        sky.hour();
        Due.type(sky, "abc");
        for (int what = 0; what <= 11; what++) {
            EDGES.due("a second object is nothing as well, count(" + what + ")", new LaundrySky().count(what), 0);
        }
        EDGES.due("the first one is itself", sky.count(3) * 10 + sky.count(11), 13);
        EDGES.due("none is -1", LaundrySky.NONE, -1);
    }

    private static void feed() {
        EDGES.promise(2, "Up to 24 signs come behind the TAPE: the bytes of a, b, c, of each the highest first");
        LaundrySky sky = new LaundrySky();
        EDGES.due("none", sky.feed(0, 0, 0), 0);
        EDGES.due("24", sky.feed(0x6c696e6520612070L, 0x65677320393b6c69L, 0x6e65206220706567L), 24);
        EDGES.due("7 more", sky.feed(0x7300000000000000L, 0x0000003800000000L, 0x3b0a000000202000L), 30);
        EDGES.due("line a pegs 9;line b pegs8;", sky.street(), 0);
        EDGES.due("9", sky.line(0, 0), 9);
        EDGES.due("8", sky.line(1, 0), 8);
        EDGES.promise(2, "others than 10 and 32 .. 126, and what is beyond 1,000, are left out");
        EDGES.due("31, 127, 9, 11, 13, 0, 128, 255", sky.feed(0x1f7f090b0d0080ffL, 0, 0), 0);
        EDGES.due("10, 32, 126 between them", sky.feed(0x0a1f207f7e80ff00L, 0, 0), 3);
        for (int i = 0; i < 45; i++) {
            sky.feed(0x2020202020202020L, 0x2020202020202020L, 0x2020202020202020L);
        }
        EDGES.due("full", sky.feed(0x2020202020202020L, 0, 0), 1000);
        EDGES.promise(2, "how many there are");
        EDGES.due("as many", sky.feed(0, 0, 0), sky.count(11));
    }

    private static void reading() {
        EDGES.promise(3, "0, or its FAULT (all stays then)");
        LaundrySky sky = busy();
        sky.mark(2, false);
        sky.street();
        String before = Edges.all(sky);
        for (String text : new String[] {"line", "line x pegs 9;?", "dries 9;dries", "line a pegs 1;place sa under a;place",
            "cloth x sock wet 3;cloth x", "line x pegs 0;", "hour;"}) {
            Due.type(sky, text);
            EDGES.due("a fault of " + text, sky.street() > 0, true);
            EDGES.stays("all stays behind " + text, sky, before);
        }
        Due.type(sky, "take sa;");
        EDGES.due("the names stay", sky.morning(), 0);
        EDGES.due("the mark stays", sky.mark(2, true), true);
        EDGES.promise(4, "The TAPE is read as a MORNING, likewise.");
        Due.type(sky, "hang ra a 1;hour;take sa;");
        EDGES.due("no fault", sky.morning(), 0);
        sky.hour();
        before = Edges.all(sky);
        for (String text : new String[] {"hour", "hour;hour;take x;", "hang sa a 0;", "hour;".repeat(41), "line x pegs 1;"}) {
            Due.type(sky, text);
            EDGES.due("a fault of " + text, sky.morning() > 0, true);
            EDGES.stays("all stays behind " + text, sky, before);
        }
        EDGES.due("undo stays", sky.undo(), true);
    }

    private static void line() {
        EDGES.promise(5, "NONE: others.");
        LaundrySky sky = busy();
        for (int what = 0; what < 4; what++) {
            EDGES.due("line(-1, " + what + ")", sky.line(-1, what), -1);
            EDGES.due("line(3, " + what + ")", sky.line(3, what), -1);
            EDGES.due("line(5, " + what + ")", sky.line(5, what), -1);
            EDGES.due("on a new object", new LaundrySky().line(0, what), -1);
        }
        EDGES.due("line(2, -1)", sky.line(2, -1), -1);
        EDGES.due("line(2, 4)", sky.line(2, 4), -1);
        for (int beside : BESIDE) {
            EDGES.due("line(" + beside + ", 0)", sky.line(beside, 0), -1);
            EDGES.due("line(0, " + beside + ")", sky.line(0, beside), -1);
        }
        EDGES.promise(5, "what 0: pegs, 1: pegs that are free, 2: CLOTHS that hang there, as bits, 3: LINES that it crosses, "
            + "as bits");
        EDGES.due("pegs, all taken", sky.line(0, 0), 4);
        EDGES.due("none is free", sky.line(0, 1), 0);
        EDGES.due("two hang there", sky.line(0, 2), 3);
        EDGES.due("all are free", sky.line(2, 1), 1);
        EDGES.due("none hangs there", sky.line(2, 2), 0);
        EDGES.due("the middle one crosses both", sky.line(1, 3), 5);
        EDGES.due("the first and the last cross it", sky.line(0, 3) + sky.line(2, 3), 4);
    }

    private static void cloth() {
        EDGES.promise(6, "-2: others.");
        LaundrySky sky = busy();
        for (int what = 0; what < 5; what++) {
            EDGES.due("cloth(-1, " + what + ")", sky.cloth(-1, what), -2);
            EDGES.due("cloth(4, " + what + ")", sky.cloth(4, what), -2);
            EDGES.due("cloth(6, " + what + ")", sky.cloth(6, what), -2);
            EDGES.due("on a new object", new LaundrySky().cloth(0, what), -2);
        }
        EDGES.due("cloth(3, -1)", sky.cloth(3, -1), -2);
        EDGES.due("cloth(3, 5)", sky.cloth(3, 5), -2);
        for (int beside : BESIDE) {
            EDGES.due("cloth(" + beside + ", 0)", sky.cloth(beside, 0), -2);
            EDGES.due("cloth(0, " + beside + ")", sky.cloth(0, beside), -2);
        }
        EDGES.promise(6, "2: the LINE (NONE: it does not hang), 3: its pegs (0: it does not), 4: how wet as told");
        EDGES.due("the first line", sky.cloth(0, 2), 0);
        EDGES.due("its pegs", sky.cloth(1, 3), 3);
        EDGES.due("it does not hang", sky.cloth(3, 2), -1);
        EDGES.due("it does not", sky.cloth(3, 3), 0);
        sky.take(1);
        EDGES.due("it does not hang any more", sky.cloth(1, 2), -1);
        EDGES.due("it does not any more", sky.cloth(1, 3), 0);
        sky.hour();
        sky.hour();
        EDGES.due("dry", sky.cloth(0, 1), 0);
        EDGES.due("as told", sky.cloth(0, 4), 4);
    }

    private static void place() {
        EDGES.promise(7, "-2: others.");
        LaundrySky sky = busy();
        for (int what = 0; what < 4; what++) {
            EDGES.due("place(-1, " + what + ")", sky.place(-1, what), -2);
            EDGES.due("place(2, " + what + ")", sky.place(2, what), -2);
            EDGES.due("place(4, " + what + ")", sky.place(4, what), -2);
            EDGES.due("on a new object", new LaundrySky().place(0, what), -2);
        }
        EDGES.due("place(1, -1)", sky.place(1, -1), -2);
        EDGES.due("place(1, 4)", sky.place(1, 4), -2);
        for (int beside : BESIDE) {
            EDGES.due("place(" + beside + ", 0)", sky.place(beside, 0), -2);
            EDGES.due("place(0, " + beside + ")", sky.place(0, beside), -2);
        }
        EDGES.promise(7, "what 0: the WEATHER (the KIND; NONE: nothing), 1: how many of that KIND");
        EDGES.due("snow", sky.place(0, 0), 0);
        EDGES.due("one sheet", sky.place(0, 1), 1);
        sky.take(0);
        sky.take(1);
        EDGES.due("nothing", sky.place(0, 0), -1);
        EDGES.due("none", sky.place(0, 1), 0);
    }

    private static void hang() {
        EDGES.promise(8, "pegs that are free then; NONE: others, it can't be.");
        for (LaundrySky sky : skies()) {
            String before = Edges.all(sky);
            for (int beside : BESIDE) {
                EDGES.due("cloth " + beside, sky.hang(beside, 0, 1), -1);
                EDGES.due("line " + beside, sky.hang(2, beside, 1), -1);
                EDGES.due("pegs " + beside, sky.hang(2, 1, beside), -1);
            }
            EDGES.due("cloth -1", sky.hang(-1, 1, 1), -1);
            EDGES.due("cloth 4", sky.hang(4, 1, 1), -1);
            EDGES.due("cloth 6", sky.hang(6, 1, 1), -1);
            EDGES.due("line -1", sky.hang(2, -1, 1), -1);
            EDGES.due("line 3", sky.hang(2, 3, 1), -1);
            EDGES.due("line 5", sky.hang(2, 5, 1), -1);
            EDGES.due("pegs 0", sky.hang(2, 1, 0), -1);
            EDGES.due("pegs 4", sky.hang(2, 1, 4), -1);
            EDGES.due("pegs -1", sky.hang(2, 1, -1), -1);
            EDGES.due("a full line", sky.hang(2, 0, 1), -1);
            EDGES.due("more than there are", sky.hang(2, 1, 3), -1);
            EDGES.due("one that hangs", sky.hang(0, 1, 1), -1);
            EDGES.stays("nothing is done", sky, before);
        }
        LaundrySky sky = busy();
        EDGES.due("none is free then", sky.hang(2, 1, 2), 0);
        EDGES.due("none is free then", sky.hang(3, 2, 1), 0);
    }

    private static void take() {
        EDGES.promise(9, "how wet it is; NONE: others, it does not hang.");
        for (LaundrySky sky : skies()) {
            String before = Edges.all(sky);
            for (int beside : BESIDE) {
                EDGES.due("cloth " + beside, sky.take(beside), -1);
            }
            EDGES.due("cloth -1", sky.take(-1), -1);
            EDGES.due("cloth 4", sky.take(4), -1);
            EDGES.due("cloth 6", sky.take(6), -1);
            EDGES.due("it does not hang", sky.take(3), -1);
            EDGES.stays("nothing is done", sky, before);
        }
        LaundrySky sky = busy();
        EDGES.due("as wet as told", sky.take(1), 5);
        sky.hour();
        sky.hour();
        EDGES.due("dry", sky.take(0), 0);
    }

    private static void wash() {
        EDGES.promise(10, "true; false: others, it hangs.");
        for (LaundrySky sky : skies()) {
            String before = Edges.all(sky);
            for (int beside : BESIDE) {
                EDGES.due("cloth " + beside, sky.wash(beside), false);
            }
            EDGES.due("cloth -1", sky.wash(-1), false);
            EDGES.due("cloth 4", sky.wash(4), false);
            EDGES.due("cloth 6", sky.wash(6), false);
            EDGES.due("it hangs", sky.wash(0), false);
            EDGES.stays("nothing is done", sky, before);
        }
        LaundrySky sky = busy();
        EDGES.due("it does not", sky.wash(3), true);
        EDGES.due("one more can be undone", sky.count(10), 5);
    }

    private static void hour() {
        EDGES.promise(11, "CLOTHS that are dry by it, as bits.");
        LaundrySky sky = Due.sky("line a pegs 9;cloth m sock wet 1;cloth n sock wet 3;cloth o sock wet 4;cloth p sock wet 1;"
            + "cloth q sock wet 20;cloth r sock wet 3;dries 3;");
        EDGES.due("none hangs", sky.hour(), 0);
        for (int cloth = 1; cloth < 6; cloth++) {
            sky.hang(cloth, 0, 1);
        }
        EDGES.due("the last bit too, none that lies", sky.hour(), 2 + 8 + 32);
        EDGES.due("none that was dry ahead", sky.hour(), 4);
        EDGES.due("none", sky.hour(), 0);
        EDGES.due("on a new object", new LaundrySky().hour(), 0);
    }

    private static void undo() {
        EDGES.promise(12, "true; false: nothing can be.");
        LaundrySky sky = new LaundrySky();
        EDGES.due("nothing can be", sky.undo(), false);
        sky.hour();
        EDGES.due("one can", sky.undo(), true);
        EDGES.due("and no more", sky.undo(), false);
        LaundrySky busy = busy();
        for (int i = 0; i < 4; i++) {
            EDGES.due("four can", busy.undo(), true);
        }
        String before = Edges.all(busy);
        EDGES.due("no fifth", busy.undo(), false);
        EDGES.stays("nothing is done", busy, before);
        for (int i = 0; i < 17; i++) {
            busy.hour();
        }
        for (int i = 0; i < 16; i++) {
            EDGES.due("sixteen can", busy.undo(), true);
        }
        EDGES.due("no seventeenth", busy.undo(), false);
        EDGES.due("the eldest stays done", busy.count(3), 1);
    }

    private static void judged() {
        EDGES.promise(13, "what 0, 1: lines (NONE: none), 2: how many; -2: others.");
        for (LaundrySky sky : skies()) {
            String before = Edges.all(sky);
            EDGES.due("-1", sky.judged(-1), -2);
            EDGES.due("3", sky.judged(3), -2);
            for (int beside : BESIDE) {
                EDGES.due("what " + beside, sky.judged(beside), -2);
            }
            EDGES.stays("nothing is done", sky, before);
        }
        LaundrySky sky = busy();
        EDGES.due("the take", sky.judged(0), 2);
        EDGES.due("the hanging", sky.judged(1), 0);
        EDGES.due("none is dry", sky.judged(2), 0);
        sky.street();
        Due.type(sky, "");
        sky.morning();
        EDGES.due("no line can't be", sky.judged(0), -1);
        EDGES.due("no thunder", sky.judged(1), -1);
        EDGES.due("none", sky.judged(2), 0);
    }

    private static void later() {
        EDGES.promise(14, "LATER (the KIND; NONE: nothing); -2: others.");
        LaundrySky sky = busy();
        for (int beside : BESIDE) {
            EDGES.due("place " + beside, sky.later(beside, 0), -2);
            EDGES.due("hours " + beside, sky.later(0, beside), -2);
        }
        EDGES.due("place -1", sky.later(-1, 0), -2);
        EDGES.due("place 2", sky.later(2, 0), -2);
        EDGES.due("place 4", sky.later(4, 0), -2);
        EDGES.due("hours -1", sky.later(0, -1), -2);
        EDGES.due("hours 41", sky.later(0, 41), -2);
        EDGES.due("on a new object", new LaundrySky().later(0, 0), -2);
        EDGES.due("snow", sky.later(0, 0), 0);
        EDGES.due("blue", sky.later(0, 2), 1);
        EDGES.due("nothing", sky.later(0, 5), -1);
        EDGES.due("nothing", sky.later(0, 40), -1);
    }

    private static void dryAndClears() {
        EDGES.promise(15, "DRY; NONE: others, it does not hang, not by 40.");
        LaundrySky sky = busy();
        LaundrySky never = Due.sky("line a pegs 9;place p under a;cloth m sock wet 1;dries 0;");
        never.hang(0, 0, 1);
        for (int beside : BESIDE) {
            EDGES.due("cloth " + beside, sky.dry(beside), -1);
        }
        EDGES.due("cloth -1", sky.dry(-1), -1);
        EDGES.due("cloth 4", sky.dry(4), -1);
        EDGES.due("cloth 6", sky.dry(6), -1);
        EDGES.due("it does not hang", sky.dry(3), -1);
        EDGES.due("not by 40", never.dry(0), -1);
        EDGES.due("it has one", sky.dry(1), 5);
        EDGES.promise(16, "CLEARS; NONE: others, not by 40.");
        for (int beside : BESIDE) {
            EDGES.due("place " + beside, sky.clears(beside), -1);
        }
        EDGES.due("place -1", sky.clears(-1), -1);
        EDGES.due("place 2", sky.clears(2), -1);
        EDGES.due("place 4", sky.clears(4), -1);
        EDGES.due("on a new object", new LaundrySky().clears(0), -1);
        EDGES.due("not by 40", never.clears(0), -1);
        EDGES.due("it does", sky.clears(0), 5);
    }

    private static void want() {
        EDGES.promise(17, "WANTED (the KIND; NONE: nothing): true; false: others.");
        for (LaundrySky sky : skies()) {
            String before = Edges.all(sky);
            for (int beside : BESIDE) {
                EDGES.due("place " + beside, sky.want(beside, 0), false);
                EDGES.due("weather " + beside, sky.want(0, beside), false);
            }
            EDGES.due("place -1", sky.want(-1, 0), false);
            EDGES.due("place 2", sky.want(2, 0), false);
            EDGES.due("place 4", sky.want(4, 0), false);
            EDGES.due("weather -2", sky.want(0, -2), false);
            EDGES.due("weather 4", sky.want(0, 4), false);
            EDGES.stays("nothing is done", sky, before);
        }
        LaundrySky sky = busy();
        for (int weather = -1; weather <= 3; weather++) {
            EDGES.due("weather " + weather, sky.want(0, weather), true);
        }
        EDGES.due("both places", sky.count(7), 3);
    }

    private static void wish() {
        EDGES.promise(18, "WISH, cloth NONE: how many; else the LINE (NONE: it is not hung by it, it hangs already); -2: "
            + "others, by none.");
        LaundrySky sky = busy();
        for (int beside : BESIDE) {
            EDGES.due("cloth " + beside, sky.wish(beside), -2);
        }
        EDGES.due("cloth -2", sky.wish(-2), -2);
        EDGES.due("cloth 4", sky.wish(4), -2);
        EDGES.due("cloth 6", sky.wish(6), -2);
        EDGES.due("on a new object", new LaundrySky().wish(-1), 0);
        EDGES.due("on a new object", new LaundrySky().wish(0), -2);
        EDGES.due("it is so", sky.wish(-1), 0);
        sky.want(1, 2);
        EDGES.due("one", sky.wish(-1), 1);
        EDGES.due("the skirt", sky.wish(2), 1);
        EDGES.due("it is not hung by it", sky.wish(3), -1);
        EDGES.due("it hangs already", sky.wish(0), -1);
        sky.want(0, 2);
        EDGES.due("by none", sky.wish(-1), -2);
        for (int cloth = 0; cloth < 4; cloth++) {
            EDGES.due("by none", sky.wish(cloth), -2);
        }
    }

    private static void lift() {
        EDGES.promise(19, "LIFT (the KIND; NONE: nothing), as bits; NONE: others, by none.");
        LaundrySky sky = busy();
        for (int beside : BESIDE) {
            EDGES.due("place " + beside, sky.lift(beside, 0), -1);
            EDGES.due("weather " + beside, sky.lift(0, beside), -1);
        }
        EDGES.due("place -1", sky.lift(-1, 0), -1);
        EDGES.due("place 2", sky.lift(2, 0), -1);
        EDGES.due("place 4", sky.lift(4, 0), -1);
        EDGES.due("weather -2", sky.lift(0, -2), -1);
        EDGES.due("weather 4", sky.lift(0, 4), -1);
        EDGES.due("on a new object", new LaundrySky().lift(0, -1), -1);
        EDGES.due("it has that", sky.lift(0, 0), 0);
        EDGES.due("the sheet", sky.lift(0, 1), 1);
        EDGES.due("both", sky.lift(0, -1), 3);
        EDGES.due("by none", sky.lift(0, 2), -1);
        EDGES.due("by none", sky.lift(0, 3), -1);
    }

    private static void tell() {
        EDGES.promise(20, "TOLD (the KIND; NONE: nothing): true; false: others, 6 there are.");
        for (LaundrySky sky : skies()) {
            String before = Edges.all(sky);
            for (int beside : BESIDE) {
                EDGES.due("place " + beside, sky.tell(beside, 0, 0), false);
                EDGES.due("hours " + beside, sky.tell(0, beside, 0), false);
                EDGES.due("weather " + beside, sky.tell(0, 0, beside), false);
            }
            EDGES.due("place -1", sky.tell(-1, 0, 0), false);
            EDGES.due("place 2", sky.tell(2, 0, 0), false);
            EDGES.due("place 4", sky.tell(4, 0, 0), false);
            EDGES.due("hours -1", sky.tell(0, -1, 0), false);
            EDGES.due("hours 13", sky.tell(0, 13, 0), false);
            EDGES.due("weather -2", sky.tell(0, 0, -2), false);
            EDGES.due("weather 4", sky.tell(0, 0, 4), false);
            EDGES.stays("nothing is done", sky, before);
        }
        LaundrySky sky = busy();
        for (int weather = -1; weather <= 3; weather++) {
            EDGES.due("weather " + weather, sky.tell(0, 12, weather), true);
        }
        EDGES.due("six there are", sky.tell(0, 12, 0), false);
        EDGES.due("six there are, and others", sky.tell(9, 99, 9), false);
        EDGES.due("six", sky.count(9), 6);
    }

    private static void pairsAndLook() {
        EDGES.promise(21, "PAIRS, what 0: how many, 1: CLOTHS, 2: LINES (bits); NONE: others.");
        for (LaundrySky sky : skies()) {
            EDGES.due("what -1", sky.pairs(-1), -1);
            EDGES.due("what 3", sky.pairs(3), -1);
            for (int beside : BESIDE) {
                EDGES.due("what " + beside, sky.pairs(beside), -1);
            }
        }
        LaundrySky sky = busy();
        EDGES.due("the skirt on b, for a is full", sky.pairs(0), 1);
        EDGES.due("the skirt", sky.pairs(1), 4);
        EDGES.due("b", sky.pairs(2), 2);
        EDGES.promise(22, "LOOK; NONE: others, none parts them.");
        for (LaundrySky each : skies()) {
            EDGES.due("hours -1", each.look(-1), -1);
            EDGES.due("hours 13", each.look(13), -1);
            for (int beside : BESIDE) {
                EDGES.due("hours " + beside, each.look(beside), -1);
            }
            EDGES.due("none parts one or none", each.look(0), -1);
        }
        EDGES.due("one parts them", Due.sky(STREET).look(0), 1);
    }

    private static void crossings() {
        EDGES.promise(23, "RAINBOWS, how many.");
        EDGES.due("on a new object", new LaundrySky().rainbows(), 0);
        LaundrySky sky = busy();
        EDGES.due("none", sky.rainbows(), 0);
        sky.hang(2, 1, 1);
        EDGES.due("one", sky.rainbows(), 1);
        EDGES.promise(24, "QUARRELS, how many.");
        EDGES.due("on a new object", new LaundrySky().quarrels(), 0);
        EDGES.due("none", sky.quarrels(), 0);
        sky.hang(3, 2, 1);
        EDGES.due("one", sky.quarrels(), 1);
        sky.hour();
        EDGES.due("dry", sky.quarrels(), 0);
    }

    private static void best() {
        EDGES.promise(25, "BEST; NONE: others, it hangs, none.");
        for (LaundrySky sky : skies()) {
            for (int beside : BESIDE) {
                EDGES.due("cloth " + beside, sky.best(beside), -1);
            }
            EDGES.due("cloth -1", sky.best(-1), -1);
            EDGES.due("cloth 4", sky.best(4), -1);
            EDGES.due("cloth 6", sky.best(6), -1);
            EDGES.due("it hangs", sky.best(0), -1);
        }
        LaundrySky sky = busy();
        EDGES.due("one", sky.best(2), 1);
        sky.hang(2, 1, 2);
        EDGES.due("none: c is above no place", sky.best(3), -1);
    }

    private static void owes() {
        EDGES.promise(26, "OWES; NONE: others, none.");
        for (LaundrySky sky : skies()) {
            for (int beside : BESIDE) {
                EDGES.due("place " + beside, sky.owes(beside), -1);
            }
            EDGES.due("place -1", sky.owes(-1), -1);
            EDGES.due("place 2", sky.owes(2), -1);
            EDGES.due("place 4", sky.owes(4), -1);
        }
        LaundrySky sky = busy();
        EDGES.due("the sheet", sky.owes(0), 0);
        sky.take(0);
        EDGES.due("the shirt", sky.owes(0), 1);
        sky.take(1);
        EDGES.due("none", sky.owes(0), -1);
    }

    private static void chance() {
        EDGES.promise(27, "CHANCE, by odds (0 to 10); NONE: others, it does not hang.");
        for (LaundrySky sky : skies()) {
            for (int beside : BESIDE) {
                EDGES.due("cloth " + beside, sky.chance(beside, 1, 5), -1);
                EDGES.due("hours " + beside, sky.chance(0, beside, 5), -1);
                EDGES.due("odds " + beside, sky.chance(0, 1, beside), -1);
            }
            EDGES.due("cloth -1", sky.chance(-1, 1, 5), -1);
            EDGES.due("cloth 4", sky.chance(4, 1, 5), -1);
            EDGES.due("cloth 6", sky.chance(6, 1, 5), -1);
            EDGES.due("hours 0", sky.chance(0, 0, 5), -1);
            EDGES.due("hours 7", sky.chance(0, 7, 5), -1);
            EDGES.due("odds -1", sky.chance(0, 1, -1), -1);
            EDGES.due("odds 11", sky.chance(0, 1, 11), -1);
            EDGES.due("it does not hang", sky.chance(3, 1, 5), -1);
        }
        LaundrySky sky = busy();
        EDGES.due("odds 0", sky.chance(0, 6, 0), 0);
        EDGES.due("odds 10", sky.chance(0, 2, 10), 1000000);
        EDGES.due("odds 1", sky.chance(0, 2, 1), 10000);
    }

    private static void sameAndStorm() {
        EDGES.promise(28, "SAME, how many.");
        EDGES.due("on a new object", new LaundrySky().same(), 0);
        EDGES.due("one pair", busy().same(), 1);
        EDGES.promise(29, "STORM; NONE: no PLACE.");
        EDGES.due("on a new object", new LaundrySky().storm(), -1);
        EDGES.due("lines and cloths alone", Due.sky("line a pegs 1;cloth c sock wet 1;").storm(), -1);
        EDGES.due("one place, no wind", Due.sky("line a pegs 1;place p under a;").storm(), 0);
        EDGES.due("two alike", busy().storm(), 0);
    }

    private static void last() {
        EDGES.promise(30, "LAST; NONE: none has a DRY.");
        EDGES.due("on a new object", new LaundrySky().last(), -1);
        EDGES.due("none hangs", Due.sky(STREET).last(), -1);
        LaundrySky never = Due.sky("line a pegs 9;cloth m sock wet 1;cloth n sock wet 1;dries 0;");
        never.hang(0, 0, 1);
        EDGES.due("not by 40", never.last(), -1);
        LaundrySky sky = busy();
        EDGES.due("the shirt", sky.last(), 1);
        for (int i = 0; i < 5; i++) {
            sky.hour();
        }
        EDGES.due("both have one of 0", sky.last(), 0);
    }

    private static void rests() {
        EDGES.promise(31, "what NONE: how many; i: the i-th as 2 * the first one's choice + the other one's (1 hangs; the least "
            + "first)");
        LaundrySky sky = new LaundrySky();
        int[] all = {0, 1, 2, 3};
        EDGES.due("how many", sky.rests(0, 0, 0, -1), 4);
        for (int i = 0; i < 4; i++) {
            EDGES.due("the " + i + "th", sky.rests(0, 0, 0, i), all[i]);
        }
        EDGES.due("how many", sky.rests(1, 1, 0, -1), 2);
        EDGES.due("both wait", sky.rests(1, 1, 0, 0), 0);
        EDGES.due("both hang", sky.rests(1, 1, 0, 1), 3);
        EDGES.promise(31, "NoSuchElementException: others, none such.");
        EDGES.noSuch(0, 0, 0, 4);
        EDGES.noSuch(1, 1, 0, 2);
        EDGES.noSuch(0, 1, 1, 1);
        EDGES.noSuch(0, 0, 0, -2);
        for (int beside : BESIDE) {
            EDGES.noSuch(beside, 0, 0, -1);
            EDGES.noSuch(0, beside, 0, -1);
            EDGES.noSuch(0, 0, beside, -1);
            EDGES.noSuch(0, 0, 0, beside);
        }
        EDGES.noSuch(-1, 0, 0, 0);
        EDGES.noSuch(10, 0, 0, 0);
        EDGES.noSuch(0, -1, 0, 0);
        EDGES.noSuch(0, 10, 0, 0);
        EDGES.noSuch(0, 0, -1, 0);
        EDGES.noSuch(0, 0, 10, 0);
    }

    private static void mays() {
        EDGES.promise(32, "MAYS by a SEED (0 to 9999), what 0: hours, 1: how often, 2: bits; NONE: others.");
        for (LaundrySky sky : skies()) {
            String before = Edges.all(sky);
            for (int what = 0; what < 3; what++) {
                EDGES.due("seed -1", sky.mays(-1, 1, what), -1);
                EDGES.due("seed 10000", sky.mays(10000, 1, what), -1);
                EDGES.due("hours 0", sky.mays(0, 0, what), -1);
                EDGES.due("hours 100", sky.mays(0, 100, what), -1);
                EDGES.due("seed 0", sky.mays(0, 1, what) >= 0, true);
                EDGES.due("seed 9999", sky.mays(9999, 99, what) >= 0, true);
            }
            EDGES.due("what -1", sky.mays(0, 1, -1), -1);
            EDGES.due("what 3", sky.mays(0, 1, 3), -1);
            for (int beside : BESIDE) {
                boolean seed = beside >= 0 && beside <= 9999;
                boolean hours = beside >= 1 && beside <= 99;
                EDGES.due("seed " + beside, sky.mays(beside, 1, 0) == -1, !seed);
                EDGES.due("hours " + beside, sky.mays(0, beside, 0) == -1, !hours);
                EDGES.due("what " + beside, sky.mays(0, 1, beside), -1);
            }
            EDGES.stays("nothing is done", sky, before);
        }
        LaundrySky sky = busy();
        // seed 0: cloth 0 hangs wet, as it does behind the hour
        EDGES.due("one calm hour", sky.mays(0, 1, 0), 1);
        EDGES.due("none hung", sky.mays(0, 1, 1), 0);
        EDGES.due("as ahead", sky.mays(0, 1, 2), 3);
    }

    private static void mark() {
        EDGES.promise(33, "true; false: none such, nothing is on it (back).");
        for (LaundrySky sky : skies()) {
            String before = Edges.all(sky);
            for (int beside : BESIDE) {
                EDGES.due("mark " + beside, sky.mark(beside, false), false);
                EDGES.due("mark " + beside, sky.mark(beside, true), false);
            }
            EDGES.due("mark -1", sky.mark(-1, false), false);
            EDGES.due("mark -1", sky.mark(-1, true), false);
            EDGES.due("mark 4", sky.mark(4, false), false);
            EDGES.due("mark 4", sky.mark(4, true), false);
            for (int mark = 0; mark < 4; mark++) {
                EDGES.due("nothing is on it", sky.mark(mark, true), false);
            }
            EDGES.stays("nothing is done", sky, before);
            for (int mark = 0; mark < 4; mark++) {
                EDGES.due("laid", sky.mark(mark, false), true);
                EDGES.due("laid anew", sky.mark(mark, false), true);
            }
            EDGES.stays("to lay one changes nothing", sky, before);
            for (int mark = 0; mark < 4; mark++) {
                EDGES.due("gone back to", sky.mark(mark, true), true);
                EDGES.due("gone back to again", sky.mark(mark, true), true);
            }
            EDGES.due("nothing can be undone", sky.count(10), 0);
        }
    }

    private static void count() {
        EDGES.promise(34, "NONE for another what.");
        for (LaundrySky sky : skies()) {
            EDGES.due("count(-1)", sky.count(-1), -1);
            EDGES.due("count(12)", sky.count(12), -1);
            for (int beside : BESIDE) {
                EDGES.due("count(" + beside + ")", sky.count(beside), -1);
            }
        }
        EDGES.promise(34, "What 0: LINES, 1: PLACES, 2: CLOTHS, 3: the hour, 4: CLOTHS that hang, as bits, 5: CLOTHS that are "
            + "WET, as bits, 6: pegs that are free, all, 7: PLACES of which something is WANTED, as bits, 8: lines of the "
            + "MORNING, 9: TOLD, 10: what can be undone, 11: signs on the TAPE.");
        int[] due = {3, 2, 4, 2, 3, 15, 3, 2, 3, 1, 4, 2};
        for (int what = 0; what <= 11; what++) {
            EDGES.due("count(" + what + ")", busy().count(what), due[what]);
        }
        LaundrySky sky = busy();
        sky.want(0, -1);
        EDGES.due("none is wanted of a place: something is", sky.count(7), 3);
        sky.hour();
        sky.hour();
        EDGES.due("a dry one is not among the wet", sky.count(5), 14);
        EDGES.due("but hangs", sky.count(4), 3);
        StringBuilder most = new StringBuilder();
        for (char line = 'a'; line <= 'e'; line++) {
            most.append("line ").append(line).append(" pegs 9;place p").append(line).append(" under a;cloth c").append(line)
                .append(" sock wet 20;");
        }
        LaundrySky full = Due.sky(most.toString().replace("place pe under a;", "cloth cf sock wet 20;"));
        int[] all = {5, 4, 6, 0, 0, 63, 45, 0, 0, 0, 0, 0};
        for (int what = 0; what <= 11; what++) {
            EDGES.due("a full street's count(" + what + ")", full.count(what), all[what]);
        }
        for (int cloth = 0; cloth < 6; cloth++) {
            full.hang(cloth, cloth % 5, 3);
        }
        for (int place = 0; place < 4; place++) {
            full.want(place, 3);
        }
        EDGES.due("all hang", full.count(4), 63);
        EDGES.due("pegs", full.count(6), 27);
        EDGES.due("all are wanted", full.count(7), 15);
        EDGES.due("the last cloth on the first line", full.line(0, 2), 33);
        EDGES.due("the fifth on the last", full.line(4, 2), 16);
        EDGES.due("all is as wanted", full.wish(-1), 0);
        EDGES.due("in all places alike", full.same(), 6);
    }
}
