import java.util.ArrayList;
import java.util.List;
import java.util.NoSuchElementException;
import java.util.Random;

/** Random runs of calls, each answer held against the document's plain second telling. */
public final class RandomRunsTest {
    private static final String[] KINDS = {"sheet", "shirt", "skirt", "sock"};
    private static final String[] WORDS = {"line", "pegs", "place", "under", "cloth", "wet", "crosses", "dries",
        "hang", "take", "wash", "hour", "sheet", "shirt", "skirt", "sock", "not", "and", "or", "damp", "loose", "sun",
        "clock", "a", "b", "pa", "ca", "cb", ";", ";", "(", ")", "<", "=", "+", "-", "*", "0", "1", "3", "10", "21",
        "12345", "abcdefghi", "abcdefgh", "%", "\n", "A"};

    private final Random random;
    private final Due due = new Due();

    RandomRunsTest(long seed) {
        random = new Random(seed);
    }

    public static void main(String[] args) {
        int runs = args.length > 0 ? Integer.parseInt(args[0]) : 600;
        int asked = 0;
        int wrong = 0;
        for (int run = 0; run < runs; run++) {
            RandomRunsTest test = new RandomRunsTest(args.length > 1 ? Long.parseLong(args[1]) + run : run);
            test.run(run);
            asked += test.due.asked();
            if (test.due.wrong() > 0) {
                System.out.println("run " + run + " has " + test.due.wrong() + " wrong answers");
                wrong += test.due.wrong();
            }
        }
        System.out.println("RandomRunsTest: " + asked + " answers, " + wrong + " of them wrong");
        if (wrong > 0 || asked == 0) {
            System.exit(1);
        }
    }

    private void run(int run) {
        LaundrySky sky = new LaundrySky();
        PlainSky plain = new PlainSky();
        if (run % 10 == 0) {
            texts(sky, plain);
            noise(sky, plain);
            return;
        }
        type(sky, plain, streetText());
        due.due("street()", sky.street(), plain.street());
        if (run % 10 == 1) {
            wishes(sky, plain);
            return;
        }
        for (int i = 0; i < 120; i++) {
            step(sky, plain);
        }
    }

    /** What some hanging brings is wanted, so that wishes of several cloths can be. */
    private void wishes(LaundrySky sky, PlainSky plain) {
        for (int i = random.nextInt(3); i > 0; i--) {
            hang(sky, plain);
        }
        due.due("mark", sky.mark(0, false), plain.mark(0, false));
        for (int i = random.nextInt(8); i >= 0; i--) {
            hang(sky, plain);
        }
        int[] weathers = new int[4];
        for (int place = 0; place < 4; place++) {
            weathers[place] = plain.place(place, 0);
        }
        due.due("mark", sky.mark(0, true), plain.mark(0, true));
        for (int place = 0; place < 4; place++) {
            if (random.nextInt(5) > 0) {
                due.due("want", sky.want(place, weathers[place]), plain.want(place, weathers[place]));
            }
        }
        for (int cloth = -1; cloth < 6; cloth++) {
            due.due("wish", sky.wish(cloth), plain.wish(cloth));
        }
    }

    private void texts(LaundrySky sky, PlainSky plain) {
        for (int i = 0; i < 14; i++) {
            String text = spoilt(random.nextInt(3) > 0 ? streetText() : morningText());
            type(sky, plain, text);
            boolean asStreet = random.nextInt(3) > 0;
            due.due((asStreet ? "street of " : "morning of ") + text, asStreet ? sky.street() : sky.morning(),
                asStreet ? plain.street() : plain.morning());
            counts(sky, plain);
        }
    }

    /** Any bytes, and any words in any order, up to a full tape and beyond it. */
    private void noise(LaundrySky sky, PlainSky plain) {
        for (int i = 0; i < 12; i++) {
            for (int k = random.nextInt(random.nextInt(4) == 0 ? 60 : 4); k >= 0; k--) {
                long a = random.nextLong();
                long b = random.nextLong() & 0x7f7f7f7f7f7f7f7fL;
                long c = random.nextLong();
                due.due("feed", sky.feed(a, b, c), plain.feed(a, b, c));
            }
            due.due("street of noise", sky.street(), plain.street());
            StringBuilder text = new StringBuilder();
            for (int k = random.nextInt(i == 0 ? 300 : 12); k > 0; k--) {
                text.append(WORDS[random.nextInt(WORDS.length)]).append(random.nextInt(4) > 0 ? " " : "");
            }
            type(sky, plain, text.toString());
            boolean asStreet = random.nextBoolean();
            due.due("words " + text, asStreet ? sky.street() : sky.morning(), asStreet ? plain.street() : plain.morning());
            counts(sky, plain);
        }
    }

    private void counts(LaundrySky sky, PlainSky plain) {
        for (int what = -1; what <= 12; what++) {
            due.due("count(" + what + ")", sky.count(what), plain.count(what));
        }
    }

    private void type(LaundrySky sky, PlainSky plain, String text) {
        for (int i = 0; i < text.length(); i += 24) {
            long a = Due.eight(text, i);
            long b = Due.eight(text, i + 8);
            long c = Due.eight(text, i + 16);
            due.due("feed", sky.feed(a, b, c), plain.feed(a, b, c));
        }
    }

    // ---- texts

    private String streetText() {
        StringBuilder text = new StringBuilder();
        int lines = 1 + random.nextInt(5);
        int places = 1 + random.nextInt(4);
        int cloths = 1 + random.nextInt(6);
        for (int i = 0; i < lines; i++) {
            text.append("line ").append((char) ('a' + i)).append(" pegs ").append(1 + random.nextInt(6)).append(" ; ");
        }
        for (int i = 0; i < places; i++) {
            text.append("place p").append((char) ('a' + i)).append(" under");
            int first = random.nextInt(lines);
            for (int j = 0; j < lines; j++) {
                if (j == first || random.nextInt(3) == 0) {
                    text.append(' ').append((char) ('a' + j));
                }
            }
            text.append(';');
        }
        for (int i = 0; i < cloths; i++) {
            text.append("cloth c").append((char) ('a' + i)).append(' ').append(KINDS[random.nextInt(4)])
                .append(" wet ").append(1 + random.nextInt(random.nextBoolean() ? 20 : 6)).append(";\n");
        }
        for (int i = 0; i < lines; i++) {
            for (int j = i + 1; j < lines; j++) {
                if (random.nextBoolean()) {
                    boolean turned = random.nextBoolean();
                    text.append("crosses ").append((char) ('a' + (turned ? j : i))).append(' ')
                        .append((char) ('a' + (turned ? i : j))).append(';');
                }
            }
        }
        if (random.nextInt(3) > 0) {
            text.append("dries ").append(e(0)).append(";");
        }
        return text.toString();
    }

    private String e(int within) {
        StringBuilder text = new StringBuilder(test(within));
        for (int i = random.nextInt(8) - 5; i > 0; i--) {
            text.append(random.nextBoolean() ? " and " : " or ").append(test(within));
        }
        return text.toString();
    }

    private String test(int within) {
        String first = sum(within);
        int way = random.nextInt(6);
        return way == 0 ? first + " < " + sum(within) : way == 1 ? first + "=" + sum(within) : first;
    }

    private String sum(int within) {
        StringBuilder text = new StringBuilder(product(within));
        for (int i = random.nextInt(3); i > 0; i--) {
            text.append(random.nextBoolean() ? " + " : "-").append(product(within));
        }
        return text.toString();
    }

    private String product(int within) {
        return random.nextInt(4) == 0 ? part(within) + "*" + part(within) : part(within);
    }

    private String part(int within) {
        int way = random.nextInt(within < 4 ? 12 : 10);
        if (way >= 11 && within < 3) {
            return "(" + e(within + 1) + ")";
        }
        if (way >= 10) {
            return "not " + part(within + 1);
        }
        String[] facts = {"damp", "loose", "sun", "clock"};
        return way < 5 ? String.valueOf(random.nextInt(random.nextInt(20) == 0 ? 10000 : 4)) : facts[way % 4];
    }

    private String morningText() {
        StringBuilder text = new StringBuilder();
        for (int i = random.nextInt(random.nextInt(5) == 0 ? 45 : 20); i > 0; i--) {
            char cloth = (char) ('a' + random.nextInt(6));
            switch (random.nextInt(6)) {
                case 0 -> text.append("take c").append(cloth);
                case 1 -> text.append("wash c").append(cloth);
                case 2 -> text.append("hour");
                default -> text.append("hang c").append(cloth).append(' ').append((char) ('a' + random.nextInt(5)))
                    .append(' ').append(1 + random.nextInt(3));
            }
            text.append(";");
        }
        return text.toString();
    }

    /** A text with a few words more, fewer or others. */
    private String spoilt(String text) {
        List<String> words = new ArrayList<>();
        for (String word : text.replace(";", " ; ").replace("(", " ( ").replace(")", " ) ").split(" +")) {
            words.add(word);
        }
        for (int i = random.nextInt(3); i > 0 && !words.isEmpty(); i--) {
            int at = random.nextInt(words.size());
            String other = random.nextInt(3) == 0 ? words.get(random.nextInt(words.size()))
                : WORDS[random.nextInt(WORDS.length)];
            switch (random.nextInt(4)) {
                case 0 -> words.remove(at);
                case 1 -> words.add(at, other);
                case 2 -> words.set(at, other);
                default -> words.subList(at, words.size()).clear();
            }
        }
        String spoilt = String.join(random.nextInt(4) == 0 ? "  " : " ", words);
        return random.nextInt(5) == 0 ? spoilt + "  " : spoilt;
    }

    // ---- calls

    /** Mostly within the range from least to most, sometimes beside it. */
    private int some(int least, int most) {
        int beside = random.nextInt(25);
        if (beside == 0) {
            return least - 1 - random.nextInt(3);
        }
        if (beside == 1) {
            return most + 1 + random.nextInt(3);
        }
        if (beside == 2 && random.nextInt(4) == 0) {
            return random.nextBoolean() ? Integer.MIN_VALUE : Integer.MAX_VALUE;
        }
        return least + random.nextInt(most - least + 1);
    }

    private void step(LaundrySky sky, PlainSky plain) {
        int call = random.nextInt(60);
        if (call < 14) {
            hang(sky, plain);
        } else if (call < 25) {
            deed(sky, plain, call);
        } else if (call < 34) {
            wanting(sky, plain, call);
        } else {
            asking(sky, plain, call);
        }
        if (random.nextInt(12) == 0) {
            look(sky, plain);
        }
    }

    private void hang(LaundrySky sky, PlainSky plain) {
        int c = some(0, 5);
        int l = some(0, 4);
        int p = some(1, 3);
        due.due("hang", sky.hang(c, l, p), plain.hang(c, l, p));
    }

    private void deed(LaundrySky sky, PlainSky plain, int call) {
        int c = some(0, 5);
        switch (call) {
            case 14, 15, 16 -> due.due("take", sky.take(c), plain.take(c));
            case 17, 18 -> due.due("wash", sky.wash(c), plain.wash(c));
            case 19, 20, 21 -> due.due("hour", sky.hour(), plain.hour());
            case 22 -> {
                for (int i = random.nextInt(20); i >= 0; i--) {
                    due.due("undo", sky.undo(), plain.undo());
                }
            }
            case 23 -> {
                int m = some(0, 3);
                boolean back = random.nextInt(3) == 0;
                due.due("mark", sky.mark(m, back), plain.mark(m, back));
            }
            default -> {
                type(sky, plain, morningText());
                due.due("morning", sky.morning(), plain.morning());
                for (int what = -1; what <= 3; what++) {
                    due.due("judged", sky.judged(what), plain.judged(what));
                }
            }
        }
    }

    private void wanting(LaundrySky sky, PlainSky plain, int call) {
        int p = some(0, 3);
        int h = some(0, 12);
        int w = some(-1, 3);
        switch (call) {
            case 25, 26, 27 -> due.due("want", sky.want(p, w), plain.want(p, w));
            case 28 -> {
                int c = some(-1, 5);
                due.due("wish", sky.wish(c), plain.wish(c));
            }
            case 29, 30 -> due.due("tell", sky.tell(p, h, w), plain.tell(p, h, w));
            case 31 -> {
                for (int what = -1; what <= 3; what++) {
                    due.due("pairs", sky.pairs(what), plain.pairs(what));
                }
            }
            case 32 -> due.due("look", sky.look(h), plain.look(h));
            default -> due.due("lift", sky.lift(p, w), plain.lift(p, w));
        }
    }

    private void asking(LaundrySky sky, PlainSky plain, int call) {
        int p = some(0, 3);
        int c = some(0, 5);
        switch (call) {
            case 34 -> due.due("rainbows", sky.rainbows(), plain.rainbows());
            case 35 -> due.due("quarrels", sky.quarrels(), plain.quarrels());
            case 36, 37 -> due.due("best", sky.best(c), plain.best(c));
            case 38, 39 -> due.due("owes", sky.owes(p), plain.owes(p));
            case 40, 41 -> {
                int h = some(1, 6);
                int odds = some(0, 10);
                due.due("chance", sky.chance(c, h, odds), plain.chance(c, h, odds));
            }
            case 42 -> due.due("same", sky.same(), plain.same());
            case 43 -> due.due("storm", sky.storm(), plain.storm());
            case 44 -> due.due("last", sky.last(), plain.last());
            case 45, 46 -> rests(sky, plain);
            case 47 -> {
                int seed = some(0, 9999);
                int hours = some(1, 99);
                for (int what = -1; what <= 3; what++) {
                    due.due("mays", sky.mays(seed, hours, what), plain.mays(seed, hours, what));
                }
            }
            case 48, 49 -> {
                int h = some(0, 40);
                due.due("later", sky.later(p, h), plain.later(p, h));
            }
            case 50, 51 -> due.due("dry", sky.dry(c), plain.dry(c));
            case 52, 53 -> due.due("clears", sky.clears(p), plain.clears(p));
            default -> hang(sky, plain);
        }
    }

    private void rests(LaundrySky sky, PlainSky plain) {
        int both = some(0, 9);
        int loses = some(0, 9);
        int gets = some(0, 9);
        int what = some(-1, 3);
        int got;
        try {
            got = sky.rests(both, loses, gets, what);
        } catch (NoSuchElementException e) {
            got = -99;
        }
        due.due("rests", got, plain.rests(both, loses, gets, what));
    }

    private void look(LaundrySky sky, PlainSky plain) {
        counts(sky, plain);
        for (int i = -1; i <= 6; i++) {
            for (int what = -1; what <= 5; what++) {
                due.due("line", sky.line(i, what), plain.line(i, what));
                due.due("cloth", sky.cloth(i, what), plain.cloth(i, what));
                due.due("place", sky.place(i, what), plain.place(i, what));
            }
        }
    }
}
