import java.util.NoSuchElementException;

/**
 * Laundry as weather: what hangs wet on the lines above a place is the weather that it has.
 *
 * <p>The face below is the document's; the classes inside are, in their order: the words of the
 * language, the tape and its tokens, the law of drying, the street, its reader, the morning, the sky
 * (what hangs, how wet, at what hour), and what looks for wishes and pairs or keeps what was.
 */
public final class LaundrySky {
    public static final int NONE = -1;

    private static final int OTHERS = -2;

    private static final int MOST_SIGNS = 1000;
    private static final int MOST_LINES = 5;
    private static final int MOST_PLACES = 4;
    private static final int MOST_CLOTHS = 6;
    private static final int MOST_ROWS = 40;
    private static final int MOST_DEPTH = 5;
    private static final int MOST_PEGS = 3;
    private static final int MOST_UNDONE = 16;
    private static final int MOST_TOLD = 6;
    private static final int MOST_MARKS = 4;
    private static final int LAST_HOUR = 40;
    private static final int LAST_TOLD_HOUR = 12;
    private static final int LAST_CHANCE_HOUR = 6;

    private static final int KINDS = 4;
    private static final int SHIRT = 1;
    private static final int THUNDER = 2;
    /** The KINDS in the order in which they win when there are as many of each: skirt, sock, sheet, shirt. */
    private static final int[] RANKS = {2, 3, 0, 1};

    private static final int BAD_TOKEN = 1;
    private static final int BAD_NAME = 2;
    private static final int TOLD_ALREADY = 3;
    private static final int BAD_NUMBER = 4;
    private static final int TOO_MANY = 5;

    private final Tape tape;
    private final Town town;
    private final TownReader townReader;
    private final Plan plan;
    private final Plan draftPlan;
    private final Sky now;
    private final Sky trial;
    private final Past past;
    private final Wishes wishes;
    private final Tellings tellings;
    private final Mark[] marks;
    /** One sky for each hour of a CHANCE, so that both ways out of an hour start from the same one. */
    private final Sky[] paths;

    public LaundrySky() {
        tape = new Tape();
        town = new Town();
        townReader = new TownReader(tape);
        plan = new Plan();
        draftPlan = new Plan();
        now = new Sky(town);
        trial = new Sky(town);
        past = new Past(town);
        wishes = new Wishes(trial);
        tellings = new Tellings(trial);
        marks = new Mark[MOST_MARKS];
        for (int i = 0; i < marks.length; i++) {
            marks[i] = new Mark(town);
        }
        paths = new Sky[LAST_CHANCE_HOUR + 1];
        for (int i = 0; i < paths.length; i++) {
            paths[i] = new Sky(town);
        }
    }

    // ---- the tape and what is read from it

    public int feed(long a, long b, long c) {
        tape.addBytes(a);
        tape.addBytes(b);
        tape.addBytes(c);
        return tape.length;
    }

    public int street() {
        int fault = townReader.readTown();
        if (fault == 0) {
            town.copyFrom(townReader.draft);
            startAnew();
        }
        return fault;
    }

    public int morning() {
        int fault = draftPlan.readFrom(tape, town);
        if (fault == 0) {
            plan.copyFrom(draftPlan);
        }
        return fault;
    }

    private void startAnew() {
        now.begin();
        plan.size = 0;
        wishes.forget();
        tellings.size = 0;
        past.size = 0;
        for (int i = 0; i < marks.length; i++) {
            marks[i].laid = false;
        }
    }

    // ---- what is there

    public int line(int line, int what) {
        if (!town.hasLine(line)) {
            return NONE;
        }
        switch (what) {
            case 0:
                return town.pegs[line];
            case 1:
                return now.freeOn(line);
            case 2:
                return now.clothsOn(line);
            case 3:
                return town.crossed[line];
            default:
                return NONE;
        }
    }

    public int cloth(int cloth, int what) {
        if (!town.hasCloth(cloth)) {
            return OTHERS;
        }
        switch (what) {
            case 0:
                return town.kinds[cloth];
            case 1:
                return now.wet[cloth];
            case 2:
                return now.on[cloth];
            case 3:
                return now.by[cloth];
            case 4:
                return town.soaked[cloth];
            default:
                return OTHERS;
        }
    }

    public int place(int place, int what) {
        if (!town.hasPlace(place)) {
            return OTHERS;
        }
        switch (what) {
            case 0:
                return now.weather(place, 0);
            case 1:
                return now.strength(place);
            case 2:
                return now.wind(place);
            case 3:
                return town.above[place];
            default:
                return OTHERS;
        }
    }

    public int count(int what) {
        switch (what) {
            case 0:
                return town.lines;
            case 1:
                return town.places;
            case 2:
                return town.cloths;
            case 3:
                return now.clock;
            case 4:
                return now.hanging();
            case 5:
                return now.wetOnes();
            case 6:
                return now.freeInAll();
            case 7:
                return wishes.wantedPlaces();
            case 8:
                return plan.size;
            case 9:
                return tellings.size;
            case 10:
                return past.size;
            case 11:
                return tape.length;
            default:
                return NONE;
        }
    }

    // ---- mornings by hand

    public int hang(int cloth, int line, int pegs) {
        if (!now.canHang(cloth, line, pegs)) {
            return NONE;
        }
        past.keep(now);
        now.putUp(cloth, line, pegs);
        return now.freeOn(line);
    }

    public int take(int cloth) {
        if (!now.hangs(cloth)) {
            return NONE;
        }
        past.keep(now);
        now.putDown(cloth);
        return now.wet[cloth];
    }

    public boolean wash(int cloth) {
        if (!now.lies(cloth)) {
            return false;
        }
        past.keep(now);
        now.soak(cloth);
        return true;
    }

    public int hour() {
        past.keep(now);
        return now.passHour(true);
    }

    public boolean undo() {
        return past.bringBack(now);
    }

    public boolean mark(int mark, boolean back) {
        if (mark < 0 || mark >= marks.length) {
            return false;
        }
        Mark place = marks[mark];
        if (!back) {
            place.lay(now, wishes, tellings);
            return true;
        }
        if (!place.laid) {
            return false;
        }
        place.goBack(now, wishes, tellings);
        past.size = 0;
        return true;
    }

    public int judged(int what) {
        if (what < 0 || what > 2) {
            return OTHERS;
        }
        plan.judge(trial);
        if (what == 0) {
            return plan.firstWrong;
        }
        return what == 1 ? plan.firstThunder : Integer.bitCount(trial.hanging() & ~trial.wetOnes());
    }

    // ---- what will be

    public int later(int place, int hours) {
        if (!town.hasPlace(place) || hours < 0 || hours > LAST_HOUR) {
            return OTHERS;
        }
        trial.copyFrom(now);
        for (int i = 0; i < hours; i++) {
            trial.passHour(true);
        }
        return trial.weather(place, 0);
    }

    public int dry(int cloth) {
        if (!now.hangs(cloth)) {
            return NONE;
        }
        trial.copyFrom(now);
        for (int hours = 0; hours <= LAST_HOUR; hours++) {
            if (trial.wet[cloth] == 0) {
                return hours;
            }
            trial.passHour(true);
        }
        return NONE;
    }

    public int clears(int place) {
        if (!town.hasPlace(place)) {
            return NONE;
        }
        trial.copyFrom(now);
        for (int hours = 0; hours <= LAST_HOUR; hours++) {
            if (trial.weather(place, 0) == NONE) {
                return hours;
            }
            trial.passHour(true);
        }
        return NONE;
    }

    public int last() {
        trial.copyFrom(now);
        int lastDry = trial.hanging() & ~trial.wetOnes();
        for (int i = 0; i < LAST_HOUR; i++) {
            int dried = trial.passHour(true);
            if (dried != 0) {
                lastDry = dried;
            }
        }
        return lastDry == 0 ? NONE : Integer.numberOfTrailingZeros(lastDry);
    }

    public int chance(int cloth, int hours, int odds) {
        if (!now.hangs(cloth) || hours < 1 || hours > LAST_CHANCE_HOUR || odds < 0 || odds > 10) {
            return NONE;
        }
        paths[0].copyFrom(now);
        int millionths = waysToDry(cloth, 0, hours, odds);
        // of ten to the hours ways; the hours that are left to six make them millionths
        for (int i = hours; i < LAST_CHANCE_HOUR; i++) {
            millionths *= 10;
        }
        return millionths;
    }

    /** Of ten ways out of each hour from the given one on: those by which the cloth is dry at the end. */
    private int waysToDry(int cloth, int gone, int hours, int odds) {
        if (gone >= hours || gone + 1 >= paths.length) {
            return paths[gone].wet[cloth] == 0 ? 1 : 0;
        }
        int ways = 0;
        if (odds > 0) {
            paths[gone + 1].copyFrom(paths[gone]);
            paths[gone + 1].passHour(true);
            ways += odds * waysToDry(cloth, gone + 1, hours, odds);
        }
        if (odds < 10) {
            paths[gone + 1].copyFrom(paths[gone]);
            paths[gone + 1].passHour(false);
            ways += (10 - odds) * waysToDry(cloth, gone + 1, hours, odds);
        }
        return ways;
    }

    // ---- what is wanted and what is told

    public boolean want(int place, int weather) {
        if (!town.hasPlace(place) || !isWeather(weather)) {
            return false;
        }
        wishes.wanted[place] = weather;
        return true;
    }

    public int wish(int cloth) {
        if (cloth != NONE && !town.hasCloth(cloth)) {
            return OTHERS;
        }
        int fewest = wishes.fewest(now);
        if (fewest == NONE) {
            return OTHERS;
        }
        return cloth == NONE ? fewest : wishes.chosen[cloth];
    }

    public int lift(int place, int weather) {
        if (!town.hasPlace(place) || !isWeather(weather)) {
            return NONE;
        }
        int hanging = now.hanging();
        int best = NONE;
        int fewest = MOST_CLOTHS + 1;
        for (int set = 0; set <= hanging; set++) {
            int size = Integer.bitCount(set);
            if ((set & ~hanging) == 0 && size < fewest && now.weather(place, set) == weather) {
                best = set;
                fewest = size;
            }
        }
        return best;
    }

    public boolean tell(int place, int hours, int weather) {
        if (!town.hasPlace(place) || hours < 0 || hours > LAST_TOLD_HOUR || !isWeather(weather)) {
            return false;
        }
        return tellings.add(place, hours, weather);
    }

    public int pairs(int what) {
        if (what < 0 || what > 2) {
            return NONE;
        }
        tellings.findPairs(now, 0);
        if (what == 0) {
            return tellings.pairs;
        }
        return what == 1 ? tellings.pairCloths : tellings.pairLines;
    }

    public int look(int hours) {
        if (hours < 0 || hours > LAST_TOLD_HOUR) {
            return NONE;
        }
        tellings.findPairs(now, hours);
        return tellings.bestPlace();
    }

    private static boolean isWeather(int weather) {
        return weather >= NONE && weather < KINDS;
    }

    // ---- rainbows, quarrels and other questions of now

    public int rainbows() {
        return crossings(true);
    }

    public int quarrels() {
        return crossings(false);
    }

    private int crossings(boolean rainbow) {
        int found = 0;
        for (int a = 0; a < town.lines; a++) {
            for (int b = a + 1; b < town.lines; b++) {
                if ((town.crossed[a] >> b & 1) == 1 && now.bothWet(a, b) && now.isRainbow(a, b) == rainbow) {
                    found++;
                }
            }
        }
        return found;
    }

    public int best(int cloth) {
        if (!now.lies(cloth)) {
            return NONE;
        }
        int best = NONE;
        int most = 0;
        for (int line = 0; line < town.lines; line++) {
            int changed = now.freeOn(line) > 0 ? changedBy(cloth, line) : 0;
            if (changed > most) {
                most = changed;
                best = line;
            }
        }
        return best;
    }

    private int changedBy(int cloth, int line) {
        trial.copyFrom(now);
        trial.putUp(cloth, line, 1);
        int changed = 0;
        for (int place = 0; place < town.places; place++) {
            if (trial.weather(place, 0) != now.weather(place, 0)) {
                changed++;
            }
        }
        return changed;
    }

    public int owes(int place) {
        if (!town.hasPlace(place)) {
            return NONE;
        }
        int weather = now.weather(place, 0);
        for (int cloth = 0; cloth < town.cloths; cloth++) {
            if (now.hangs(cloth) && now.weather(place, 1 << cloth) != weather) {
                return cloth;
            }
        }
        return NONE;
    }

    public int same() {
        int found = 0;
        for (int a = 0; a < town.places; a++) {
            for (int b = a + 1; b < town.places; b++) {
                if (now.weather(a, 0) == now.weather(b, 0)) {
                    found++;
                }
            }
        }
        return found;
    }

    public int storm() {
        int best = NONE;
        int most = NONE;
        for (int place = 0; place < town.places; place++) {
            int wind = now.wind(place);
            if (wind > most) {
                most = wind;
                best = place;
            }
        }
        return best;
    }

    // ---- hanging out at rest

    public int rests(int both, int loses, int gets, int what) throws NoSuchElementException {
        if (!isStake(both) || !isStake(loses) || !isStake(gets) || what < NONE) {
            throw new NoSuchElementException();
        }
        int found = 0;
        for (int pair = 0; pair < 4; pair++) {
            if (isRest(both, loses, gets, pair)) {
                if (found == what) {
                    return pair;
                }
                found++;
            }
        }
        if (what != NONE) {
            throw new NoSuchElementException();
        }
        return found;
    }

    private static boolean isStake(int amount) {
        return amount >= 0 && amount <= 9;
    }

    private static boolean isRest(int both, int loses, int gets, int pair) {
        int first = pair >> 1;
        int other = pair & 1;
        return gain(both, loses, gets, first, other) >= gain(both, loses, gets, 1 - first, other)
            && gain(both, loses, gets, other, first) >= gain(both, loses, gets, 1 - other, first);
    }

    /** What one gets by his own choice and the other one's; 1 hangs. */
    private static int gain(int both, int loses, int gets, int own, int other) {
        if (own == 1) {
            return other == 1 ? both : -loses;
        }
        return other == 1 ? gets : 0;
    }

    // ---- Mays by draws

    public int mays(int seed, int hours, int what) {
        if (seed < 0 || seed > 9999 || hours < 1 || hours > 99 || what < 0 || what > 2) {
            return NONE;
        }
        trial.copyFrom(now);
        trial.drawn = seed;
        int calm = 0;
        int hung = 0;
        for (int i = 0; i < hours; i++) {
            if (town.lines > 0 && town.cloths > 0 && trial.drawOne()) {
                hung++;
            }
            trial.passHour(true);
            if (!trial.thunders()) {
                calm++;
            }
        }
        if (what == 0) {
            return calm;
        }
        return what == 1 ? hung : trial.hanging();
    }

    // ---- the classes inside

    /** The words that mean something in the language. */
    private enum Word {
        LINE("line", Word.KEY, 0),
        PEGS("pegs", Word.KEY, 0),
        PLACE("place", Word.KEY, 0),
        UNDER("under", Word.KEY, 0),
        CLOTH("cloth", Word.KEY, 0),
        WET("wet", Word.KEY, 0),
        CROSSES("crosses", Word.KEY, 0),
        DRIES("dries", Word.KEY, 0),
        HANG("hang", Word.KEY, 0),
        TAKE("take", Word.KEY, 0),
        WASH("wash", Word.KEY, 0),
        HOUR("hour", Word.KEY, 0),
        SHEET("sheet", Word.KIND, 0),
        SHIRTS("shirt", Word.KIND, SHIRT),
        SKIRT("skirt", Word.KIND, THUNDER),
        SOCK("sock", Word.KIND, 3),
        NOT("not", Word.KEY, 0),
        AND("and", Word.KEY, 0),
        OR("or", Word.KEY, 0),
        DAMP("damp", Word.FACT, Law.DAMP),
        LOOSE("loose", Word.FACT, Law.LOOSE),
        SUN("sun", Word.FACT, Law.SUN),
        CLOCK("clock", Word.FACT, Law.CLOCK);

        static final int KEY = 0;
        static final int KIND = 1;
        /** Facts are no NAME's rivals: a line may be called sun. */
        static final int FACT = 2;
        /** All of them, kept once: values() makes a copy each time. */
        private static final Word[] ALL = values();

        final String text;
        final int group;
        final int value;

        Word(String text, int group, int value) {
            this.text = text;
            this.group = group;
            this.value = value;
        }

        boolean standsAt(char[] signs, int start, int end) {
            if (start < 0 || end > signs.length || end - start != text.length()) {
                return false;
            }
            for (int i = 0; i < text.length(); i++) {
                if (signs[start + i] != text.charAt(i)) {
                    return false;
                }
            }
            return true;
        }
    }

    /** The TAPE, the TOKEN on it that is looked at, and the first FAULT. */
    private static final class Tape {
        // a sign's token has the sign itself as its kind
        static final int END = 0;
        static final int NO_TOKEN = 1;
        static final int WORD = 2;
        static final int NUMBER = 3;
        static final int MOST_LETTERS = 8;
        static final int MOST_DIGITS = 4;

        final char[] signs = new char[MOST_SIGNS];
        int length;
        int kind;
        Word word;
        long letters;
        int number;
        int fault;
        private int start;
        private int next;

        void addBytes(long bytes) {
            for (int shift = 56; shift >= 0; shift -= 8) {
                int sign = (int) (bytes >>> shift) & 255;
                if ((sign == 10 || sign >= 32 && sign <= 126) && length < signs.length) {
                    signs[length] = (char) sign;
                    length++;
                }
            }
        }

        void startReading() {
            fault = 0;
            next = 0;
            advance();
        }

        int endReading() {
            length = 0;
            return fault;
        }

        void advance() {
            word = null;
            letters = 0;
            number = 0;
            while (next < length && isBlank(signs[next])) {
                next++;
            }
            start = next;
            if (next >= length) {
                kind = END;
                return;
            }
            char sign = signs[next];
            if (isLetter(sign)) {
                readWord();
            } else if (isDigit(sign)) {
                readDigits();
            } else {
                kind = "()<=+-*;".indexOf(sign) >= 0 ? sign : NO_TOKEN;
                next++;
            }
        }

        private void readWord() {
            while (next < length && isLetter(signs[next])) {
                // digits to the base 32, none of which is 0: no two WORDS are packed alike
                letters = letters * 32 + (signs[next] - 'a' + 1);
                next++;
            }
            if (next - start > MOST_LETTERS) {
                kind = NO_TOKEN;
                return;
            }
            kind = WORD;
            for (int i = 0; word == null && i < Word.ALL.length; i++) {
                word = Word.ALL[i].standsAt(signs, start, next) ? Word.ALL[i] : null;
            }
        }

        private void readDigits() {
            while (next < length && isDigit(signs[next])) {
                number = number * 10 + (signs[next] - '0');
                next++;
            }
            kind = next - start > MOST_DIGITS ? NO_TOKEN : NUMBER;
        }

        private static boolean isBlank(char sign) {
            return sign == 10 || sign == 32;
        }

        private static boolean isLetter(char sign) {
            return sign >= 'a' && sign <= 'z';
        }

        private static boolean isDigit(char sign) {
            return sign >= '0' && sign <= '9';
        }

        /** Only the first FAULT counts; the end is all that comes behind it, so whatever reads on stops soon. */
        void fail(int faultKind) {
            if (fault == 0) {
                fault = faultKind + 16 * start;
            }
            kind = END;
            word = null;
            next = length;
        }

        boolean isName() {
            return kind == WORD && (word == null || word.group == Word.FACT);
        }

        void expectWord(Word expected) {
            if (word == expected) {
                advance();
            } else {
                fail(BAD_TOKEN);
            }
        }

        void expectSign(char expected) {
            if (kind == expected) {
                advance();
            } else {
                fail(BAD_TOKEN);
            }
        }

        /** Which one of the NAMES stands here; it stays the token that is looked at. NONE behind a FAULT. */
        int findName(long[] names, int size) {
            if (!isName()) {
                fail(BAD_TOKEN);
                return NONE;
            }
            int found = Town.indexOf(letters, names, size);
            if (found == NONE) {
                fail(BAD_NAME);
            }
            return found;
        }

        int expectNumber(int least, int most) {
            int value = number;
            if (kind != NUMBER) {
                fail(BAD_TOKEN);
            } else if (value < least || value > most) {
                fail(BAD_NUMBER);
            } else {
                advance();
            }
            return value;
        }
    }

    /** The law of drying: E, kept as steps on a stack, operands first. */
    private static final class Law {
        // steps from 0 up are NUMBERS
        static final int DAMP = -1;
        static final int LOOSE = -2;
        static final int SUN = -3;
        static final int CLOCK = -4;
        static final int NOT = -5;
        static final int AND = -6;
        static final int OR = -7;
        static final int LESS = -8;
        static final int EQUAL = -9;
        static final int PLUS = -10;
        static final int MINUS = -11;
        static final int TIMES = -12;
        static final int MOST_DROP = 9;
        /** Each of the depths leaves at most four operands behind: of E, TEST, SUM and PRODUCT. */
        static final int STACK = 4 * MOST_DEPTH + 4;

        final int[] steps = new int[MOST_SIGNS];
        final int[] stack = new int[STACK];
        int size;

        void copyFrom(Law other) {
            System.arraycopy(other.steps, 0, steps, 0, steps.length);
            size = other.size;
        }

        /** The law without dries: 1 + loose. */
        void setPlain() {
            size = 0;
            addStep(1);
            addStep(LOOSE);
            addStep(PLUS);
        }

        private void addStep(int step) {
            if (size < steps.length) {
                steps[size] = step;
                size++;
            }
        }

        private void readWhole(Tape tape, int depth) {
            readTest(tape, depth);
            for (int i = 0; i < MOST_SIGNS && (tape.word == Word.AND || tape.word == Word.OR); i++) {
                int step = tape.word == Word.AND ? AND : OR;
                tape.advance();
                readTest(tape, depth);
                addStep(step);
            }
        }

        private void readTest(Tape tape, int depth) {
            readSum(tape, depth);
            if (tape.kind == '<' || tape.kind == '=') {
                int step = tape.kind == '<' ? LESS : EQUAL;
                tape.advance();
                readSum(tape, depth);
                addStep(step);
            }
        }

        private void readSum(Tape tape, int depth) {
            readProduct(tape, depth);
            for (int i = 0; i < MOST_SIGNS && (tape.kind == '+' || tape.kind == '-'); i++) {
                int step = tape.kind == '+' ? PLUS : MINUS;
                tape.advance();
                readProduct(tape, depth);
                addStep(step);
            }
        }

        private void readProduct(Tape tape, int depth) {
            readPart(tape, depth);
            for (int i = 0; i < MOST_SIGNS && tape.kind == '*'; i++) {
                tape.advance();
                readPart(tape, depth);
                addStep(TIMES);
            }
        }

        private void readPart(Tape tape, int depth) {
            boolean fact = tape.word != null && tape.word.group == Word.FACT;
            boolean not = tape.word == Word.NOT;
            if (!fact && !not && tape.kind != Tape.NUMBER && tape.kind != '(') {
                tape.fail(BAD_TOKEN);
            } else if (depth >= MOST_DEPTH) {
                tape.fail(TOO_MANY);
            } else if (not) {
                tape.advance();
                readPart(tape, depth + 1);
                addStep(NOT);
            } else if (tape.kind == '(') {
                tape.advance();
                readWhole(tape, depth + 1);
                if (tape.kind == ')') {
                    tape.advance();
                } else {
                    tape.fail(BAD_TOKEN);
                }
            } else {
                addStep(fact ? tape.word.value : tape.number);
                tape.advance();
            }
        }

        /** How much less wet a cloth is behind an hour. */
        int drop(int damp, int loose, int sun, int clock) {
            int top = 0;
            for (int i = 0; i < size; i++) {
                int step = steps[i];
                if (step >= CLOCK) {
                    if (top < stack.length) {
                        stack[top] = operand(step, damp, loose, sun, clock);
                        top++;
                    }
                } else if (step == NOT) {
                    if (top > 0) {
                        stack[top - 1] = stack[top - 1] == 0 ? 1 : 0;
                    }
                } else if (top > 1) {
                    top--;
                    stack[top - 1] = join(step, stack[top - 1], stack[top]);
                }
            }
            return Math.max(0, Math.min(MOST_DROP, top > 0 ? stack[0] : 0));
        }

        private static int operand(int step, int damp, int loose, int sun, int clock) {
            switch (step) {
                case DAMP:
                    return damp;
                case LOOSE:
                    return loose;
                case SUN:
                    return sun;
                case CLOCK:
                    return clock;
                default:
                    return step;
            }
        }

        private static int join(int step, int a, int b) {
            switch (step) {
                case AND:
                    return a != 0 && b != 0 ? 1 : 0;
                case OR:
                    return a != 0 || b != 0 ? 1 : 0;
                case LESS:
                    return a < b ? 1 : 0;
                case EQUAL:
                    return a == b ? 1 : 0;
                case PLUS:
                    return a + b;
                case MINUS:
                    return a - b;
                default:
                    return a * b;
            }
        }
    }

    /** A STREET as it is told: nothing here changes by hand. */
    private static final class Town {
        final long[] lineNames = new long[MOST_LINES];
        final long[] placeNames = new long[MOST_PLACES];
        final long[] clothNames = new long[MOST_CLOTHS];
        final int[] pegs = new int[MOST_LINES];
        final int[] crossed = new int[MOST_LINES];
        final int[] above = new int[MOST_PLACES];
        final int[] kinds = new int[MOST_CLOTHS];
        final int[] soaked = new int[MOST_CLOTHS];
        final Law law = new Law();
        int lines;
        int places;
        int cloths;

        void clear() {
            lines = 0;
            places = 0;
            cloths = 0;
            law.setPlain();
        }

        void copyFrom(Town other) {
            System.arraycopy(other.lineNames, 0, lineNames, 0, MOST_LINES);
            System.arraycopy(other.placeNames, 0, placeNames, 0, MOST_PLACES);
            System.arraycopy(other.clothNames, 0, clothNames, 0, MOST_CLOTHS);
            System.arraycopy(other.pegs, 0, pegs, 0, MOST_LINES);
            System.arraycopy(other.crossed, 0, crossed, 0, MOST_LINES);
            System.arraycopy(other.above, 0, above, 0, MOST_PLACES);
            System.arraycopy(other.kinds, 0, kinds, 0, MOST_CLOTHS);
            System.arraycopy(other.soaked, 0, soaked, 0, MOST_CLOTHS);
            law.copyFrom(other.law);
            lines = other.lines;
            places = other.places;
            cloths = other.cloths;
        }

        boolean hasLine(int line) {
            return line >= 0 && line < lines;
        }

        boolean hasPlace(int place) {
            return place >= 0 && place < places;
        }

        boolean hasCloth(int cloth) {
            return cloth >= 0 && cloth < cloths;
        }

        void addLine(long name, int linePegs) {
            if (lines < MOST_LINES) {
                lineNames[lines] = name;
                pegs[lines] = linePegs;
                crossed[lines] = 0;
                lines++;
            }
        }

        void addPlace(long name, int under) {
            if (places < MOST_PLACES) {
                placeNames[places] = name;
                above[places] = under;
                places++;
            }
        }

        void addCloth(long name, int kind, int wet) {
            if (cloths < MOST_CLOTHS) {
                clothNames[cloths] = name;
                kinds[cloths] = kind;
                soaked[cloths] = wet;
                cloths++;
            }
        }

        void addCrossing(int a, int b) {
            if (hasLine(a) && hasLine(b)) {
                crossed[a] |= 1 << b;
                crossed[b] |= 1 << a;
            }
        }

        boolean isTold(long name) {
            return indexOf(name, lineNames, lines) != NONE
                || indexOf(name, placeNames, places) != NONE
                || indexOf(name, clothNames, cloths) != NONE;
        }

        static int indexOf(long name, long[] names, int size) {
            for (int i = 0; i < size && i < names.length; i++) {
                if (names[i] == name) {
                    return i;
                }
            }
            return NONE;
        }
    }

    /** Reads the TAPE as a STREET into a draft, so that a FAULT leaves the STREET that is there alone. */
    private static final class TownReader {
        final Tape tape;
        final Town draft = new Town();
        private boolean hasLaw;

        TownReader(Tape tape) {
            this.tape = tape;
        }

        int readTown() {
            draft.clear();
            hasLaw = false;
            tape.startReading();
            for (int i = 0; i < MOST_SIGNS && tape.kind != Tape.END; i++) {
                Word first = tape.word;
                if (first == Word.LINE) {
                    readLine();
                } else if (first == Word.PLACE) {
                    readPlace();
                } else if (first == Word.CLOTH) {
                    readCloth();
                } else if (first == Word.CROSSES) {
                    readCrossing();
                } else if (first == Word.DRIES) {
                    readLaw();
                } else {
                    tape.fail(BAD_TOKEN);
                }
            }
            return tape.endReading();
        }

        private void skipUnlessFull(boolean full) {
            if (full) {
                tape.fail(TOO_MANY);
            } else {
                tape.advance();
            }
        }

        private long newName() {
            long name = tape.letters;
            if (!tape.isName()) {
                tape.fail(BAD_TOKEN);
            } else if (draft.isTold(name)) {
                tape.fail(TOLD_ALREADY);
            } else {
                tape.advance();
            }
            return name;
        }

        private void readLine() {
            skipUnlessFull(draft.lines >= MOST_LINES);
            long name = newName();
            tape.expectWord(Word.PEGS);
            int pegs = tape.expectNumber(1, 9);
            tape.expectSign(';');
            if (tape.fault == 0) {
                draft.addLine(name, pegs);
            }
        }

        private void readPlace() {
            skipUnlessFull(draft.places >= MOST_PLACES);
            long name = newName();
            tape.expectWord(Word.UNDER);
            int under = lineOutside(0);
            for (int i = 0; i < MOST_LINES && tape.isName(); i++) {
                under |= lineOutside(under);
            }
            tape.expectSign(';');
            if (tape.fault == 0) {
                draft.addPlace(name, under);
            }
        }

        /** The bit of the LINE that stands on the tape, which must not be one of those told already. */
        private int lineOutside(int told) {
            int line = tape.findName(draft.lineNames, draft.lines);
            if (line == NONE) {
                return 0;
            }
            if ((told >> line & 1) == 1) {
                tape.fail(TOLD_ALREADY);
                return 0;
            }
            tape.advance();
            return 1 << line;
        }

        private void readCloth() {
            skipUnlessFull(draft.cloths >= MOST_CLOTHS);
            long name = newName();
            Word kind = tape.word;
            if (kind == null || kind.group != Word.KIND) {
                tape.fail(BAD_TOKEN);
                return;
            }
            tape.advance();
            tape.expectWord(Word.WET);
            int wet = tape.expectNumber(1, 20);
            tape.expectSign(';');
            if (tape.fault == 0) {
                draft.addCloth(name, kind.value, wet);
            }
        }

        private void readCrossing() {
            tape.advance();
            int first = tape.findName(draft.lineNames, draft.lines);
            if (!draft.hasLine(first)) {
                return;
            }
            tape.advance();
            int bit = lineOutside(draft.crossed[first] | 1 << first);
            tape.expectSign(';');
            if (tape.fault == 0) {
                draft.addCrossing(first, Integer.numberOfTrailingZeros(bit));
            }
        }

        private void readLaw() {
            if (hasLaw) {
                tape.fail(TOLD_ALREADY);
                return;
            }
            hasLaw = true;
            tape.advance();
            draft.law.size = 0;
            draft.law.readWhole(tape, 0);
            tape.expectSign(';');
        }
    }

    /** A MORNING: its lines, here rows, and how it is JUDGED. */
    private static final class Plan {
        private static final int HANG = 0;
        private static final int TAKE = 1;
        private static final int WASH = 2;
        private static final int HOUR = 3;

        final int[] deeds = new int[MOST_ROWS];
        final int[] cloths = new int[MOST_ROWS];
        final int[] lines = new int[MOST_ROWS];
        final int[] pegs = new int[MOST_ROWS];
        int size;
        int firstWrong;
        int firstThunder;

        void copyFrom(Plan other) {
            System.arraycopy(other.deeds, 0, deeds, 0, MOST_ROWS);
            System.arraycopy(other.cloths, 0, cloths, 0, MOST_ROWS);
            System.arraycopy(other.lines, 0, lines, 0, MOST_ROWS);
            System.arraycopy(other.pegs, 0, pegs, 0, MOST_ROWS);
            size = other.size;
        }

        int readFrom(Tape tape, Town town) {
            size = 0;
            tape.startReading();
            for (int i = 0; i < MOST_SIGNS && tape.kind != Tape.END; i++) {
                int deed = deedOf(tape.word);
                if (deed == NONE) {
                    tape.fail(BAD_TOKEN);
                } else if (size >= MOST_ROWS) {
                    tape.fail(TOO_MANY);
                } else {
                    readRow(tape, town, deed);
                }
            }
            return tape.endReading();
        }

        private static int deedOf(Word word) {
            if (word == Word.HANG) {
                return HANG;
            }
            if (word == Word.TAKE) {
                return TAKE;
            }
            if (word == Word.WASH) {
                return WASH;
            }
            return word == Word.HOUR ? HOUR : NONE;
        }

        private void readRow(Tape tape, Town town, int deed) {
            deeds[size] = deed;
            tape.advance();
            if (deed != HOUR) {
                cloths[size] = tape.findName(town.clothNames, town.cloths);
                tape.advance();
            }
            if (deed == HANG) {
                lines[size] = tape.findName(town.lineNames, town.lines);
                tape.advance();
                pegs[size] = tape.expectNumber(1, MOST_PEGS);
            }
            tape.expectSign(';');
            size++;
        }

        /** Leaves the sky as it is at last. */
        void judge(Sky sky) {
            firstWrong = NONE;
            firstThunder = NONE;
            sky.begin();
            for (int row = 0; row < size && row < MOST_ROWS; row++) {
                if (!isDone(sky, row) && firstWrong == NONE) {
                    firstWrong = row;
                }
                if (firstThunder == NONE && sky.thunders()) {
                    firstThunder = row;
                }
            }
        }

        private boolean isDone(Sky sky, int row) {
            int cloth = cloths[row];
            switch (deeds[row]) {
                case HANG:
                    if (!sky.canHang(cloth, lines[row], pegs[row])) {
                        return false;
                    }
                    sky.putUp(cloth, lines[row], pegs[row]);
                    return true;
                case TAKE:
                    if (!sky.hangs(cloth)) {
                        return false;
                    }
                    sky.putDown(cloth);
                    return true;
                case WASH:
                    if (!sky.lies(cloth)) {
                        return false;
                    }
                    sky.soak(cloth);
                    return true;
                default:
                    sky.passHour(true);
                    return true;
            }
        }
    }

    /** What hangs where by how many pegs, how wet all is, and the hour: all that changes by hand. */
    private static final class Sky {
        final Town town;
        final int[] wet = new int[MOST_CLOTHS];
        final int[] on = new int[MOST_CLOTHS];
        final int[] by = new int[MOST_CLOTHS];
        /** How many of each KIND the last one asked for had. */
        final int[] tally = new int[KINDS];
        int clock;
        long drawn;

        Sky(Town town) {
            this.town = town;
        }

        void begin() {
            for (int cloth = 0; cloth < MOST_CLOTHS; cloth++) {
                wet[cloth] = town.soaked[cloth];
                on[cloth] = NONE;
                by[cloth] = 0;
            }
            clock = 0;
        }

        void copyFrom(Sky other) {
            System.arraycopy(other.wet, 0, wet, 0, MOST_CLOTHS);
            System.arraycopy(other.on, 0, on, 0, MOST_CLOTHS);
            System.arraycopy(other.by, 0, by, 0, MOST_CLOTHS);
            clock = other.clock;
        }

        boolean hangs(int cloth) {
            return town.hasCloth(cloth) && on[cloth] != NONE;
        }

        /** There is such a cloth, and it does not hang. */
        boolean lies(int cloth) {
            return town.hasCloth(cloth) && on[cloth] == NONE;
        }

        boolean canHang(int cloth, int line, int pegs) {
            return lies(cloth) && town.hasLine(line) && pegs >= 1 && pegs <= MOST_PEGS && pegs <= freeOn(line);
        }

        void putUp(int cloth, int line, int pegs) {
            on[cloth] = line;
            by[cloth] = pegs;
        }

        void putDown(int cloth) {
            on[cloth] = NONE;
            by[cloth] = 0;
        }

        void soak(int cloth) {
            wet[cloth] = town.soaked[cloth];
        }

        /** An hour goes by, in which all that hangs dries, or nothing does: the cloths that are dry by it, as bits. */
        int passHour(boolean dries) {
            int dried = 0;
            int sun = dries ? wetShirts() : 0;
            for (int cloth = 0; dries && cloth < town.cloths; cloth++) {
                if (on[cloth] != NONE && wet[cloth] > 0) {
                    int drop = town.law.drop(wet[cloth], MOST_PEGS - by[cloth], sun, clock);
                    wet[cloth] = Math.max(0, wet[cloth] - drop);
                    dried |= wet[cloth] == 0 ? 1 << cloth : 0;
                }
            }
            clock++;
            return dried;
        }

        private int wetShirts() {
            int found = 0;
            for (int cloth = 0; cloth < town.cloths; cloth++) {
                if (on[cloth] != NONE && wet[cloth] > 0 && town.kinds[cloth] == SHIRT) {
                    found++;
                }
            }
            return found;
        }

        int freeOn(int line) {
            int free = town.pegs[line];
            for (int cloth = 0; cloth < town.cloths; cloth++) {
                if (on[cloth] == line) {
                    free -= by[cloth];
                }
            }
            return free;
        }

        int freeInAll() {
            int free = 0;
            for (int line = 0; line < town.lines; line++) {
                free += freeOn(line);
            }
            return free;
        }

        int clothsOn(int line) {
            int bits = 0;
            for (int cloth = 0; cloth < town.cloths; cloth++) {
                bits |= on[cloth] == line ? 1 << cloth : 0;
            }
            return bits;
        }

        int hanging() {
            int bits = 0;
            for (int cloth = 0; cloth < town.cloths; cloth++) {
                bits |= on[cloth] != NONE ? 1 << cloth : 0;
            }
            return bits;
        }

        int wetOnes() {
            int bits = 0;
            for (int cloth = 0; cloth < town.cloths; cloth++) {
                bits |= wet[cloth] > 0 ? 1 << cloth : 0;
            }
            return bits;
        }

        /** The WEATHER of a PLACE if the cloths of a set (bits) were not there. */
        int weather(int place, int without) {
            countKinds(place, without);
            int best = NONE;
            int most = 0;
            for (int i = 0; i < KINDS; i++) {
                if (tally[RANKS[i]] > most) {
                    best = RANKS[i];
                    most = tally[best];
                }
            }
            return best;
        }

        void countKinds(int place, int without) {
            for (int kind = 0; kind < KINDS; kind++) {
                tally[kind] = 0;
            }
            int above = town.above[place];
            for (int cloth = 0; cloth < town.cloths; cloth++) {
                boolean there = on[cloth] != NONE && (above >> on[cloth] & 1) == 1;
                if (there && wet[cloth] > 0 && (without >> cloth & 1) == 0) {
                    tally[town.kinds[cloth]]++;
                }
            }
        }

        /** How many there are of the KIND that is the WEATHER. */
        int strength(int place) {
            int weather = weather(place, 0);
            return weather == NONE ? 0 : tally[weather];
        }

        int wind(int place) {
            int wind = 0;
            int above = town.above[place];
            for (int cloth = 0; cloth < town.cloths; cloth++) {
                boolean there = on[cloth] != NONE && (above >> on[cloth] & 1) == 1;
                wind += there ? MOST_PEGS - by[cloth] : 0;
            }
            return wind;
        }

        boolean thunders() {
            for (int place = 0; place < town.places; place++) {
                if (weather(place, 0) == THUNDER) {
                    return true;
                }
            }
            return false;
        }

        private boolean hasWet(int line, boolean shirt) {
            for (int cloth = 0; cloth < town.cloths; cloth++) {
                if (on[cloth] == line && wet[cloth] > 0 && (town.kinds[cloth] == SHIRT) == shirt) {
                    return true;
                }
            }
            return false;
        }

        boolean bothWet(int a, int b) {
            return (hasWet(a, true) || hasWet(a, false)) && (hasWet(b, true) || hasWet(b, false));
        }

        boolean isRainbow(int a, int b) {
            return hasWet(a, true) && hasWet(b, false) || hasWet(a, false) && hasWet(b, true);
        }

        private int draw(int below) {
            drawn = (drawn * 1103515245L + 12345L) % 2147483648L;
            return below > 0 ? (int) (drawn / 65536L % below) : 0;
        }

        /** What is drawn for an hour of a May; whether a cloth is HUNG by it. */
        boolean drawOne() {
            int cloth = draw(town.cloths);
            if (hangs(cloth)) {
                if (wet[cloth] == 0) {
                    putDown(cloth);
                }
                return false;
            }
            soak(cloth);
            int line = draw(town.lines);
            int pegs = draw(MOST_PEGS) + 1;
            if (!canHang(cloth, line, pegs)) {
                return false;
            }
            putUp(cloth, line, pegs);
            return true;
        }
    }

    /** The skies ahead of the last deeds, in a ring: the eldest makes room. */
    private static final class Past {
        final Sky[] kept = new Sky[MOST_UNDONE];
        int size;
        private int next;

        Past(Town town) {
            for (int i = 0; i < kept.length; i++) {
                kept[i] = new Sky(town);
            }
        }

        void keep(Sky sky) {
            kept[next].copyFrom(sky);
            next = (next + 1) % MOST_UNDONE;
            size = Math.min(size + 1, MOST_UNDONE);
        }

        boolean bringBack(Sky sky) {
            if (size == 0) {
                return false;
            }
            next = (next + MOST_UNDONE - 1) % MOST_UNDONE;
            size--;
            sky.copyFrom(kept[next]);
            return true;
        }
    }

    /** What is WANTED, and the search for the fewest cloths by which it is so. */
    private static final class Wishes {
        /** Stands for a PLACE of which nothing is WANTED: not even that it has no WEATHER. */
        static final int ANYTHING = -2;

        final int[] wanted = {ANYTHING, ANYTHING, ANYTHING, ANYTHING};
        /** The LINE of each cloth that the search hangs; NONE: it does not. */
        final int[] chosen = new int[MOST_CLOTHS];
        private final Sky trial;
        /** By KIND the LINES above a PLACE where it is WANTED, as bits: elsewhere it is in the way at best. */
        private final int[] usefulLines = new int[KINDS];

        Wishes(Sky trial) {
            this.trial = trial;
        }

        void forget() {
            for (int place = 0; place < MOST_PLACES; place++) {
                wanted[place] = ANYTHING;
            }
        }

        void copyFrom(int[] other) {
            System.arraycopy(other, 0, wanted, 0, MOST_PLACES);
        }

        int wantedPlaces() {
            int bits = 0;
            for (int place = 0; place < MOST_PLACES; place++) {
                bits |= wanted[place] != ANYTHING ? 1 << place : 0;
            }
            return bits;
        }

        int fewest(Sky now) {
            trial.copyFrom(now);
            findUsefulLines();
            for (int cloths = 0; cloths <= MOST_CLOTHS; cloths++) {
                if (search(0, cloths)) {
                    return cloths;
                }
            }
            return NONE;
        }

        private void findUsefulLines() {
            for (int kind = 0; kind < KINDS; kind++) {
                usefulLines[kind] = 0;
            }
            for (int place = 0; place < trial.town.places; place++) {
                if (wanted[place] >= 0) {
                    usefulLines[wanted[place]] |= trial.town.above[place];
                }
            }
        }

        /**
         * Hangs just so many cloths more, of those from one on. The first find is the first row, since
         * LINES are tried in their order and not to hang comes last.
         */
        private boolean search(int cloth, int more) {
            if (!canStillBe(cloth, more)) {
                return false;
            }
            if (more == 0) {
                forgetFrom(cloth);
                return true;
            }
            if (cloth >= trial.town.cloths) {
                return false;
            }
            int useful = usefulLines[trial.town.kinds[cloth]];
            for (int line = firstLine(cloth); line < trial.town.lines; line++) {
                if ((useful >> line & 1) == 1 && trial.freeOn(line) > 0) {
                    chosen[cloth] = line;
                    trial.putUp(cloth, line, 1);
                    boolean found = search(cloth + 1, more - 1);
                    trial.putDown(cloth);
                    if (found) {
                        return true;
                    }
                }
            }
            chosen[cloth] = NONE;
            return search(cloth + 1, more);
        }

        /**
         * The first LINE to try. Of two cloths of a KIND the first row has the one that comes first on no later
         * LINE, so no other row need be tried. Beyond all LINES: the cloth can't be of use.
         */
        private int firstLine(int cloth) {
            if (!trial.lies(cloth) || trial.wet[cloth] == 0) {
                return MOST_LINES;
            }
            for (int i = cloth - 1; i >= 0; i--) {
                if (trial.town.kinds[i] == trial.town.kinds[cloth] && trial.wet[i] > 0) {
                    if (chosen[i] != NONE) {
                        return chosen[i];
                    }
                    if (trial.lies(i)) {
                        return MOST_LINES;
                    }
                }
            }
            return 0;
        }

        private void forgetFrom(int cloth) {
            for (int i = cloth; i < MOST_CLOTHS; i++) {
                chosen[i] = NONE;
            }
        }

        /** Whether each PLACE could get what is WANTED if it alone got the cloths that are left; exact for no more. */
        private boolean canStillBe(int cloth, int more) {
            for (int place = 0; place < trial.town.places; place++) {
                int weather = wanted[place];
                if (weather == NONE && trial.weather(place, 0) != NONE) {
                    return false;
                }
                if (weather >= 0) {
                    trial.countKinds(place, 0);
                    if (!wins(weather, trial.tally[weather] + Math.min(more, leftOf(weather, cloth)))) {
                        return false;
                    }
                }
            }
            return true;
        }

        private int leftOf(int kind, int from) {
            int found = 0;
            for (int cloth = from; cloth < trial.town.cloths; cloth++) {
                if (trial.lies(cloth) && trial.wet[cloth] > 0 && trial.town.kinds[cloth] == kind) {
                    found++;
                }
            }
            return found;
        }

        /** Whether so many of a KIND win against the others of the tally. */
        private boolean wins(int kind, int many) {
            boolean ranksAbove = true;
            for (int i = 0; i < KINDS; i++) {
                int other = RANKS[i];
                if (other == kind) {
                    ranksAbove = false;
                } else if (trial.tally[other] > many || ranksAbove && trial.tally[other] == many) {
                    return false;
                }
            }
            return many > 0;
        }
    }

    /** What is TOLD, and the PAIRS of a CLOTH and a LINE by which all of it is so. */
    private static final class Tellings {
        final int[] places = new int[MOST_TOLD];
        final int[] hours = new int[MOST_TOLD];
        final int[] weathers = new int[MOST_TOLD];
        int size;
        int pairs;
        int pairCloths;
        int pairLines;
        private final Sky trial;
        /** Of the PAIRS, by PLACE: how many have each WEATHER (none first) at the hour that was asked for. */
        private final int[][] shares = new int[MOST_PLACES][KINDS + 1];
        private final int[] seen = new int[MOST_PLACES];

        Tellings(Sky trial) {
            this.trial = trial;
        }

        void copyFrom(Tellings other) {
            System.arraycopy(other.places, 0, places, 0, MOST_TOLD);
            System.arraycopy(other.hours, 0, hours, 0, MOST_TOLD);
            System.arraycopy(other.weathers, 0, weathers, 0, MOST_TOLD);
            size = other.size;
        }

        boolean add(int place, int hour, int weather) {
            if (size >= MOST_TOLD) {
                return false;
            }
            places[size] = place;
            hours[size] = hour;
            weathers[size] = weather;
            size++;
            return true;
        }

        void findPairs(Sky now, int asked) {
            pairs = 0;
            pairCloths = 0;
            pairLines = 0;
            for (int place = 0; place < MOST_PLACES; place++) {
                for (int i = 0; i <= KINDS; i++) {
                    shares[place][i] = 0;
                }
            }
            for (int cloth = 0; cloth < now.town.cloths; cloth++) {
                for (int line = 0; now.lies(cloth) && line < now.town.lines; line++) {
                    if (now.freeOn(line) > 0) {
                        trial.copyFrom(now);
                        trial.putUp(cloth, line, 1);
                        tryPair(cloth, line, asked);
                    }
                }
            }
        }

        private void tryPair(int cloth, int line, int asked) {
            if (!comesTrue(asked)) {
                return;
            }
            pairs++;
            pairCloths |= 1 << cloth;
            pairLines |= 1 << line;
            for (int place = 0; place < trial.town.places; place++) {
                shares[place][seen[place] + 1]++;
            }
        }

        /** Whether all that is TOLD is so from the trial's sky on; keeps what is seen at the hour that is asked for. */
        private boolean comesTrue(int asked) {
            int end = asked;
            for (int i = 0; i < size; i++) {
                end = Math.max(end, hours[i]);
            }
            for (int hour = 0; hour <= end; hour++) {
                if (hour > 0) {
                    trial.passHour(true);
                }
                if (!agrees(hour)) {
                    return false;
                }
                for (int place = 0; hour == asked && place < trial.town.places; place++) {
                    seen[place] = trial.weather(place, 0);
                }
            }
            return true;
        }

        private boolean agrees(int hour) {
            for (int i = 0; i < size; i++) {
                if (hours[i] == hour && trial.weather(places[i], 0) != weathers[i]) {
                    return false;
                }
            }
            return true;
        }

        /** The PLACE at which to look parts the PAIRS best. */
        int bestPlace() {
            int best = NONE;
            int least = pairs;
            for (int place = 0; place < trial.town.places; place++) {
                int greatest = 0;
                for (int i = 0; i <= KINDS; i++) {
                    greatest = Math.max(greatest, shares[place][i]);
                }
                if (greatest < least) {
                    least = greatest;
                    best = place;
                }
            }
            return best;
        }
    }

    /** What a MARK holds. */
    private static final class Mark {
        final Sky sky;
        final int[] wanted = new int[MOST_PLACES];
        final Tellings told;
        boolean laid;

        Mark(Town town) {
            sky = new Sky(town);
            told = new Tellings(sky);
        }

        void lay(Sky now, Wishes wishes, Tellings tellings) {
            sky.copyFrom(now);
            System.arraycopy(wishes.wanted, 0, wanted, 0, MOST_PLACES);
            told.copyFrom(tellings);
            laid = true;
        }

        void goBack(Sky now, Wishes wishes, Tellings tellings) {
            now.copyFrom(sky);
            wishes.copyFrom(wanted);
            tellings.copyFrom(told);
        }
    }
}
