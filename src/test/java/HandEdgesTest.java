/** The edges of mornings by hand and told ones, of weather and wind (the part that begins with ==== 2.). */
public final class HandEdgesTest {
    private static final Edges EDGES = new Edges();
    private static final String[] KINDS = {"sheet", "shirt", "skirt", "sock"};

    public static void main(String[] args) {
        wet();
        hang();
        pegsFree();
        take();
        wash();
        nextHour();
        undoAll();
        undoSixteen();
        undoOneByOne();
        mostOfAKind();
        linesAbove();
        equalKinds();
        nothing();
        wind();
        judgedFromTheBegin();
        judgedCannot();
        judgedThunder();
        judgedDry();
        EDGES.end("HandEdgesTest");
    }

    private static void wet() {
        EDGES.terms("A CLOTH is WET if it is above 0 so.");
        LaundrySky sky = Due.sky("line a pegs 9;place p under a;cloth c sock wet 2;dries 1;");
        sky.hang(0, 0, 1);
        sky.hour();
        EDGES.due("1: it hails", sky.place(0, 0), 3);
        EDGES.due("1: wet", sky.count(5), 1);
        sky.hour();
        EDGES.due("0: it does not", sky.place(0, 0), -1);
        EDGES.due("0: not wet", sky.count(5), 0);
        EDGES.due("it hangs as ahead", sky.count(4), 1);
    }

    private static void hang() {
        EDGES.terms("HANG one that does not hang on a LINE by 1 to 3 pegs");
        LaundrySky sky = Due.sky("line a pegs 9;line b pegs 9;cloth c sock wet 2;cloth d sock wet 2;");
        String before = Edges.all(sky);
        EDGES.due("by none", sky.hang(0, 0, 0), -1);
        EDGES.due("by four", sky.hang(0, 0, 4), -1);
        EDGES.due("by less than none", sky.hang(0, 0, -1), -1);
        EDGES.stays("nothing is done", sky, before);
        EDGES.due("by one", sky.hang(0, 0, 1), 8);
        before = Edges.all(sky);
        EDGES.due("it hangs there", sky.hang(0, 0, 1), -1);
        EDGES.due("it hangs elsewhere", sky.hang(0, 1, 1), -1);
        EDGES.stays("nothing is done", sky, before);
        EDGES.due("by three", sky.hang(1, 0, 3), 5);
        EDGES.due("take", sky.take(0), 2);
        EDGES.due("taken down it can be hung", sky.hang(0, 1, 2), 7);
    }

    private static void pegsFree() {
        EDGES.terms("if as many are free there");
        for (int pegs = 1; pegs <= 3; pegs++) {
            for (int free = 1; free <= 4; free++) {
                LaundrySky sky = Due.sky("line a pegs " + free + ";cloth c sock wet 2;");
                EDGES.due(pegs + " of " + free, sky.hang(0, 0, pegs), pegs <= free ? free - pegs : -1);
                EDGES.due("free then", sky.line(0, 1), pegs <= free ? free - pegs : free);
                EDGES.due("it hangs", sky.count(4), pegs <= free ? 1 : 0);
            }
        }
        LaundrySky full = Due.sky("line a pegs 9;line b pegs 1;cloth c sock wet 1;cloth d sock wet 1;cloth e sock wet 1;"
            + "cloth f sock wet 1;");
        for (int cloth = 0; cloth < 3; cloth++) {
            EDGES.due("three more", full.hang(cloth, 0, 3), 6 - 3 * cloth);
        }
        EDGES.due("none is free", full.hang(3, 0, 1), -1);
        EDGES.due("but elsewhere", full.hang(3, 1, 1), 0);
        full.take(1);
        full.take(3);
        EDGES.due("as many as were taken down", full.hang(3, 0, 3), 0);
    }

    private static void take() {
        EDGES.terms("TAKE one that hangs down.");
        LaundrySky sky = Due.sky("line a pegs 3;cloth c sock wet 7;dries 2;");
        String before = Edges.all(sky);
        EDGES.due("it does not hang", sky.take(0), -1);
        EDGES.stays("nothing is done", sky, before);
        sky.hang(0, 0, 3);
        sky.hour();
        EDGES.due("it hangs", sky.take(0), 5);
        EDGES.due("all is free", sky.line(0, 1), 3);
        EDGES.due("it has no pegs", sky.cloth(0, 3), 0);
        EDGES.due("nor a line", sky.cloth(0, 2), -1);
        EDGES.due("it does not hang again", sky.take(0), -1);
    }

    private static void wash() {
        EDGES.terms("WASH one that does not hang: it is as wet as told.");
        LaundrySky sky = Due.sky("line a pegs 3;cloth c sock wet 7;dries 5;");
        EDGES.due("as wet already", sky.wash(0), true);
        EDGES.due("as wet as told", sky.cloth(0, 1), 7);
        sky.hang(0, 0, 1);
        sky.hour();
        String before = Edges.all(sky);
        EDGES.due("it hangs", sky.wash(0), false);
        EDGES.stays("nothing is done", sky, before);
        EDGES.due("wet", sky.take(0), 2);
        EDGES.due("half dry", sky.wash(0), true);
        EDGES.due("as wet as told", sky.cloth(0, 1), 7);
        sky.hang(0, 0, 1);
        sky.hour();
        sky.hour();
        EDGES.due("dry", sky.take(0), 0);
        EDGES.due("dry", sky.wash(0), true);
        EDGES.due("as wet as told", sky.cloth(0, 1), 7);
    }

    private static void nextHour() {
        EDGES.terms("It is the next hour.");
        LaundrySky sky = new LaundrySky();
        for (int hour = 1; hour <= 60; hour++) {
            sky.hour();
            EDGES.due("hour", sky.count(3), hour);
        }
    }

    private static void undoAll() {
        EDGES.terms("UNDO: all of these");
        LaundrySky sky = Due.sky("line a pegs 3;place p under a;cloth c sock wet 7;dries 2;");
        String begun = Edges.all(sky);
        EDGES.due("nothing can be", sky.undo(), false);
        sky.hang(0, 0, 2);
        String hung = Edges.all(sky);
        sky.hour();
        String hour = Edges.all(sky);
        sky.take(0);
        String taken = Edges.all(sky);
        sky.wash(0);
        EDGES.due("the washing", sky.undo(), true);
        EDGES.stays("it is as dry again", sky, taken);
        EDGES.due("the taking", sky.undo(), true);
        EDGES.stays("it hangs again", sky, hour);
        EDGES.due("the hour", sky.undo(), true);
        EDGES.stays("it is as wet again", sky, hung);
        EDGES.due("the hanging", sky.undo(), true);
        EDGES.stays("it lies again", sky, begun);
        EDGES.due("nothing more", sky.undo(), false);
        EDGES.stays("nothing more", sky, begun);
        sky.hang(0, 0, 4);
        sky.take(0);
        sky.wash(1);
        sky.want(0, 1);
        sky.tell(0, 0, 1);
        sky.mark(0, false);
        Due.type(sky, "hour;");
        sky.morning();
        EDGES.due("nothing else can be undone", sky.count(10), 0);
        EDGES.due("nothing else can be undone", sky.undo(), false);
    }

    private static void undoSixteen() {
        EDGES.terms("the last 16");
        for (int deeds = 14; deeds <= 40; deeds++) {
            LaundrySky sky = new LaundrySky();
            for (int i = 0; i < deeds; i++) {
                sky.hour();
            }
            int most = Math.min(16, deeds);
            EDGES.due("what can be undone of " + deeds, sky.count(10), most);
            for (int i = 1; i <= most; i++) {
                EDGES.due("undo", sky.undo(), true);
                EDGES.due("the hour", sky.count(3), deeds - i);
                EDGES.due("what is left", sky.count(10), most - i);
            }
            EDGES.due("no more", sky.undo(), false);
            EDGES.due("the hour stays", sky.count(3), deeds - most);
        }
    }

    private static void undoOneByOne() {
        EDGES.terms("one by one");
        LaundrySky sky = new LaundrySky();
        int hour = 0;
        int left = 0;
        for (int i = 0; i < 100; i++) {
            if (i % 7 < 4) {
                sky.hour();
                hour++;
                left = Math.min(16, left + 1);
            } else {
                EDGES.due("undo", sky.undo(), left > 0);
                hour -= left > 0 ? 1 : 0;
                left = Math.max(0, left - 1);
            }
            EDGES.due("the hour", sky.count(3), hour);
            EDGES.due("what can be undone", sky.count(10), left);
        }
    }

    private static void mostOfAKind() {
        EDGES.terms("of the KINDS of all WET CLOTHS that hang on LINES above it that one of which there are the most");
        for (int most = 0; most < 4; most++) {
            for (int few = 0; few < 4; few++) {
                if (most != few) {
                    LaundrySky sky = Due.sky("line a pegs 9;line b pegs 9;place p under a b;cloth c " + KINDS[few]
                        + " wet 9;cloth d " + KINDS[most] + " wet 9;cloth e " + KINDS[most] + " wet 3;");
                    sky.hang(0, 0, 1);
                    EDGES.due("one", sky.place(0, 0), few);
                    sky.hang(1, 0, 3);
                    sky.hang(2, 1, 1);
                    EDGES.due("two against one", sky.place(0, 0), most);
                    EDGES.due("two", sky.place(0, 1), 2);
                    sky.hour();
                    EDGES.due("one of them is dry", sky.place(0, 1), 1);
                }
            }
        }
    }

    private static void linesAbove() {
        EDGES.terms("that hang on LINES above it");
        LaundrySky sky = Due.sky("line a pegs 9;line b pegs 9;line c pegs 9;line d pegs 9;line e pegs 9;place p under e;"
            + "place q under a b c d e;place r under a;cloth m sock wet 9;cloth n sheet wet 9;cloth o sheet wet 9;");
        sky.hang(0, 4, 1);
        sky.hang(1, 0, 1);
        sky.hang(2, 2, 1);
        EDGES.due("below the last line", sky.place(0, 0), 3);
        EDGES.due("below all", sky.place(1, 0), 0);
        EDGES.due("two below all", sky.place(1, 1), 2);
        EDGES.due("below the first", sky.place(2, 0), 0);
        EDGES.due("one there", sky.place(2, 1), 1);
    }

    private static void equalKinds() {
        EDGES.terms("of equal ones the first of skirt (thunder), sock (hail), sheet (snow), shirt (blue)");
        int[] order = {2, 3, 0, 1};
        for (int first = 0; first < 4; first++) {
            for (int other = first + 1; other < 4; other++) {
                for (int turned = 0; turned < 2; turned++) {
                    int one = order[turned == 0 ? first : other];
                    int two = order[turned == 0 ? other : first];
                    LaundrySky sky = Due.sky("line a pegs 9;place p under a;cloth c " + KINDS[one] + " wet 9;cloth d "
                        + KINDS[two] + " wet 9;cloth e " + KINDS[one] + " wet 9;cloth f " + KINDS[two] + " wet 9;");
                    sky.hang(0, 0, 1);
                    sky.hang(1, 0, 1);
                    EDGES.due("one of each", sky.place(0, 0), order[first]);
                    sky.hang(2, 0, 1);
                    sky.hang(3, 0, 1);
                    EDGES.due("two of each", sky.place(0, 0), order[first]);
                    EDGES.due("two", sky.place(0, 1), 2);
                }
            }
        }
    }

    private static void nothing() {
        EDGES.terms("nothing without any");
        LaundrySky sky = Due.sky("line a pegs 9;line b pegs 9;place p under a;cloth c sock wet 1;dries 1;");
        EDGES.due("none hangs", sky.place(0, 0), -1);
        EDGES.due("none of it", sky.place(0, 1), 0);
        sky.hang(0, 1, 1);
        EDGES.due("none hangs above it", sky.place(0, 0), -1);
        sky.take(0);
        sky.hang(0, 0, 1);
        EDGES.due("one", sky.place(0, 1), 1);
        sky.hour();
        EDGES.due("none is wet", sky.place(0, 0), -1);
        EDGES.due("none is wet", sky.place(0, 1), 0);
    }

    private static void wind() {
        EDGES.terms("Its WIND: for each CLOTH that hangs there, WET or not, 3 less its pegs, added up.");
        LaundrySky sky = Due.sky("line a pegs 9;line b pegs 9;place p under a;place q under a b;cloth c sock wet 1;"
            + "cloth d sock wet 1;cloth e sock wet 20;cloth f sock wet 1;dries 1;");
        EDGES.due("none hangs", sky.place(0, 2), 0);
        sky.hang(0, 0, 3);
        EDGES.due("by three pegs", sky.place(0, 2), 0);
        sky.hang(1, 0, 2);
        EDGES.due("by two", sky.place(0, 2), 1);
        sky.hang(2, 0, 1);
        EDGES.due("by one", sky.place(0, 2), 3);
        sky.hang(3, 1, 1);
        EDGES.due("elsewhere", sky.place(0, 2), 3);
        EDGES.due("below both", sky.place(1, 2), 5);
        sky.hour();
        EDGES.due("dry ones too", sky.place(1, 2), 5);
        sky.take(2);
        EDGES.due("taken down", sky.place(1, 2), 3);
        LaundrySky six = Due.sky("line a pegs 9;place p under a;cloth c sock wet 1;cloth d sock wet 1;cloth e sock wet 1;"
            + "cloth f sock wet 1;cloth g sock wet 1;cloth h sock wet 1;");
        for (int cloth = 0; cloth < 6; cloth++) {
            six.hang(cloth, 0, 1);
            EDGES.due("two more by each of six", six.place(0, 2), 2 * cloth + 2);
        }
    }

    private static final String STREET = "line a pegs 3;line b pegs 1;place p under a;cloth c skirt wet 2;"
        + "cloth d sock wet 2;cloth e shirt wet 1;dries 1;";

    private static void judge(LaundrySky sky, String text, int cannot, int thunder, int dry) {
        EDGES.morning(sky, text, 0, 0);
        EDGES.due("the first that can't be of " + text, sky.judged(0), cannot);
        EDGES.due("the first thunder of " + text, sky.judged(1), thunder);
        EDGES.due("dry ones of " + text, sky.judged(2), dry);
    }

    private static void judgedFromTheBegin() {
        EDGES.terms("JUDGED: the MORNING from the begin");
        LaundrySky sky = Due.sky(STREET);
        judge(sky, "", -1, -1, 0);
        sky.hang(0, 0, 3);
        sky.hour();
        sky.hour();
        sky.hang(1, 1, 1);
        judge(sky, "", -1, -1, 0);
        String before = Edges.all(sky);
        EDGES.morning(sky, "hang c a 3;", 0, 0);
        EDGES.due("nothing hung, it was as wet as told", sky.judged(0) * 10 + sky.judged(1), -10);
        EDGES.morning(sky, "", 0, 0);
        EDGES.stays("what is now stays", sky, before);
        LaundrySky late = Due.sky("line a pegs 3;place p under a;cloth c skirt wet 2;dries 2 * (clock = 0);");
        late.hour();
        EDGES.morning(late, "hang c a 1;hour;", 0, 0);
        EDGES.due("the hour was 0", late.judged(2), 1);
    }

    private static void judgedCannot() {
        EDGES.terms("the first line (from 0) that can't be (a wash of one that hangs, too; an hour always can; lines "
            + "that can't be are left out)");
        LaundrySky sky = Due.sky(STREET);
        judge(sky, "take c;", 0, -1, 0);
        judge(sky, "hang e b 1;wash e;", 1, -1, 0);
        judge(sky, "hang e b 1;hang e a 1;", 1, -1, 0);
        judge(sky, "hang e b 2;", 0, -1, 0);
        judge(sky, "hang e b 1;hang d b 1;", 1, -1, 0);
        judge(sky, "wash c;wash c;", -1, -1, 0);
        judge(sky, "hour;".repeat(40), -1, -1, 0);
        judge(sky, "hour;".repeat(39) + "take c;", 39, -1, 0);
        judge(sky, "take c;take d;", 0, -1, 0);
        // the washing is left out: it is dry behind the hour
        judge(sky, "hang e b 1;hour;wash e;", 2, -1, 1);
        // the second hanging is left out: the third can be
        judge(sky, "hang e a 2;hang d a 2;hang c a 1;hour;hour;", 1, 2, 2);
    }

    private static void judgedThunder() {
        EDGES.terms("the first line behind which some PLACE has thunder");
        LaundrySky sky = Due.sky(STREET);
        judge(sky, "hang c a 1;", -1, 0, 0);
        judge(sky, "hang c b 1;", -1, -1, 0);
        judge(sky, "hour;hang c a 1;take c;hang c a 1;", -1, 1, 0);
        judge(sky, "hang d a 1;hang c a 1;", -1, 1, 0);
        judge(sky, "take d;hang c a 1;take d;", 0, 1, 0);
        LaundrySky two = Due.sky("line a pegs 9;place p under a;place q under a;cloth c skirt wet 9;cloth d sock wet 1;"
            + "cloth e sock wet 1;dries 1;");
        judge(two, "hang d a 1;hang e a 1;hang c a 1;hour;", -1, 3, 2);
        judge(two, "hang d a 1;hang e a 1;hang c a 1;take d;take e;", -1, 3, 0);
        LaundrySky four = Due.sky("line a pegs 9;line b pegs 9;place p under a;place q under a;place r under a;"
            + "place s under b;cloth c skirt wet 9;cloth d sock wet 9;");
        judge(four, "hang d a 1;hour;hang c b 1;", -1, 2, 0);
        judge(four, "hang d b 1;hour;", -1, -1, 0);
    }

    private static void judgedDry() {
        EDGES.terms("CLOTHS that hang and are not WET at last");
        LaundrySky sky = Due.sky(STREET);
        judge(sky, "hang d a 1;hang e b 1;", -1, -1, 0);
        judge(sky, "hang d a 1;hang e b 1;hour;", -1, -1, 1);
        judge(sky, "hang d a 1;hang e b 1;hour;hour;", -1, -1, 2);
        judge(sky, "hang d a 1;hang e b 1;hour;hour;take d;", -1, -1, 1);
        judge(sky, "hang d a 1;hang e b 1;hour;hour;take d;take e;", -1, -1, 0);
        judge(sky, "hang e b 1;hour;take e;wash e;hang e b 1;", -1, -1, 0);
    }
}
