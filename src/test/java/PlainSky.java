import java.util.ArrayList;
import java.util.Arrays;
import java.util.HashMap;
import java.util.HashSet;
import java.util.List;
import java.util.Map;
import java.util.Set;
import java.util.TreeMap;
import java.util.function.Function;
import java.util.regex.Matcher;
import java.util.regex.Pattern;

/**
 * The document told a second time, as plainly as can be and by other means (lists, maps, all rows tried),
 * to hold the program against in random runs. It is slow and throws as it likes.
 */
final class PlainSky {
    static final int NONE = -1;
    static final List<String> KINDS = List.of("sheet", "shirt", "skirt", "sock");
    static final List<String> FIRST = List.of("skirt", "sock", "sheet", "shirt");
    static final Set<String> RESERVED = new HashSet<>(List.of("line", "pegs", "place", "under", "cloth", "wet",
        "crosses", "dries", "hang", "take", "wash", "hour", "sheet", "shirt", "skirt", "sock", "not", "and", "or"));
    static final Set<String> FACTS = Set.of("damp", "loose", "sun", "clock");

    record Line(String name, int pegs) { }

    record Place(String name, List<Integer> under) { }

    record Cloth(String name, String kind, int wet) { }

    record Row(String deed, int cloth, int line, int pegs) { }

    record Told(int place, int hours, int weather) { }

    record Facts(int damp, int loose, int sun, int clock) { }

    record Peg(int line, int pegs) { }

    record State(Map<Integer, Integer> wet, Map<Integer, Peg> hung, int hour) {
        State copy() {
            return new State(new HashMap<>(wet), new TreeMap<>(hung), hour);
        }
    }

    record Marked(State state, Map<Integer, Integer> wanted, List<Told> told) { }

    static final class Fault extends RuntimeException {
        final int code;

        Fault(int kind, int at) {
            code = kind + 16 * at;
        }
    }

    static final class Street {
        final List<Line> lines = new ArrayList<>();
        final List<Place> places = new ArrayList<>();
        final List<Cloth> cloths = new ArrayList<>();
        final Set<Set<Integer>> crossings = new HashSet<>();
        Function<Facts, Integer> dries = null;

        int line(String name) {
            for (int i = 0; i < lines.size(); i++) {
                if (lines.get(i).name().equals(name)) {
                    return i;
                }
            }
            return NONE;
        }

        int cloth(String name) {
            for (int i = 0; i < cloths.size(); i++) {
                if (cloths.get(i).name().equals(name)) {
                    return i;
                }
            }
            return NONE;
        }

        boolean told(String name) {
            return line(name) != NONE || cloth(name) != NONE
                || places.stream().anyMatch(p -> p.name().equals(name));
        }
    }

    /** The tokens of a text, the end (an empty one) being the last. */
    static final class Tokens {
        static final Pattern TOKEN = Pattern.compile("[a-z]+|[0-9]+|[^a-z0-9 \n]");
        final List<String> texts = new ArrayList<>();
        final List<Integer> starts = new ArrayList<>();
        int i = 0;

        Tokens(String text) {
            Matcher m = TOKEN.matcher(text);
            while (m.find()) {
                texts.add(m.group());
                starts.add(m.start());
            }
            texts.add("");
            starts.add(text.length());
        }

        String now() {
            return texts.get(i);
        }

        boolean is(String text) {
            return now().equals(text);
        }

        boolean isWord() {
            return now().matches("[a-z]{1,8}");
        }

        boolean isNumber() {
            return now().matches("[0-9]{1,4}");
        }

        boolean isName() {
            return isWord() && !RESERVED.contains(now());
        }

        Fault fault(int kind) {
            return new Fault(kind, starts.get(i));
        }

        String pass() {
            return texts.get(i++);
        }

        void pass(String text) {
            if (!is(text)) {
                throw fault(1);
            }
            i++;
        }

        int number(int least, int most) {
            if (!isNumber()) {
                throw fault(1);
            }
            int value = Integer.parseInt(now());
            if (value < least || value > most) {
                throw fault(4);
            }
            i++;
            return value;
        }
    }

    private final StringBuilder tape = new StringBuilder();
    private Street street = new Street();
    private List<Row> rows = new ArrayList<>();
    private State now = new State(new HashMap<>(), new TreeMap<>(), 0);
    private List<State> undo = new ArrayList<>();
    private Map<Integer, Integer> wanted = new TreeMap<>();
    private List<Told> told = new ArrayList<>();
    private Marked[] marks = new Marked[4];

    // ---- reading

    int feed(long a, long b, long c) {
        for (long eight : new long[] {a, b, c}) {
            for (int k = 7; k >= 0; k--) {
                long sign = (eight >> (8 * k)) & 0xff;
                if (tape.length() < 1000 && (sign == 10 || (32 <= sign && sign <= 126))) {
                    tape.append((char) sign);
                }
            }
        }
        return tape.length();
    }

    private String takeTape() {
        String text = tape.toString();
        tape.setLength(0);
        return text;
    }

    int street() {
        try {
            street = readStreet(new Tokens(takeTape()));
        } catch (Fault f) {
            return f.code;
        }
        now = begin();
        rows = new ArrayList<>();
        undo.clear();
        wanted = new TreeMap<>();
        told = new ArrayList<>();
        marks = new Marked[4];
        return 0;
    }

    private State begin() {
        State s = new State(new HashMap<>(), new TreeMap<>(), 0);
        for (int c = 0; c < street.cloths.size(); c++) {
            s.wet().put(c, street.cloths.get(c).wet());
        }
        return s;
    }

    static Street readStreet(Tokens t) {
        Street s = new Street();
        while (!t.is("")) {
            switch (t.now()) {
                case "line" -> {
                    String name = newName(t, s, s.lines.size() == 5);
                    t.pass("pegs");
                    int pegs = t.number(1, 9);
                    t.pass(";");
                    s.lines.add(new Line(name, pegs));
                }
                case "place" -> {
                    String name = newName(t, s, s.places.size() == 4);
                    t.pass("under");
                    List<Integer> under = new ArrayList<>();
                    do {
                        int line = lineOf(t, s);
                        if (under.contains(line)) {
                            throw t.fault(3);
                        }
                        under.add(line);
                        t.pass();
                    } while (!t.is(";"));
                    t.pass();
                    s.places.add(new Place(name, under));
                }
                case "cloth" -> {
                    String name = newName(t, s, s.cloths.size() == 6);
                    if (!KINDS.contains(t.now())) {
                        throw t.fault(1);
                    }
                    String kind = t.pass();
                    t.pass("wet");
                    int wet = t.number(1, 20);
                    t.pass(";");
                    s.cloths.add(new Cloth(name, kind, wet));
                }
                case "crosses" -> {
                    t.pass();
                    int a = lineOf(t, s);
                    t.pass();
                    int b = lineOf(t, s);
                    if (a == b || s.crossings.contains(Set.of(a, b))) {
                        throw t.fault(3);
                    }
                    t.pass();
                    t.pass(";");
                    s.crossings.add(Set.of(a, b));
                }
                case "dries" -> {
                    if (s.dries != null) {
                        throw t.fault(3);
                    }
                    t.pass();
                    s.dries = e(t, 0);
                    t.pass(";");
                }
                default -> throw t.fault(1);
            }
        }
        return s;
    }

    private static String newName(Tokens t, Street s, boolean full) {
        if (full) {
            throw t.fault(5);
        }
        t.pass();
        if (!t.isName()) {
            throw t.fault(1);
        }
        if (s.told(t.now())) {
            throw t.fault(3);
        }
        return t.pass();
    }

    private static int lineOf(Tokens t, Street s) {
        if (!t.isName()) {
            throw t.fault(1);
        }
        if (s.line(t.now()) == NONE) {
            throw t.fault(2);
        }
        return s.line(t.now());
    }

    private static int clothOf(Tokens t, Street s) {
        if (!t.isName()) {
            throw t.fault(1);
        }
        if (s.cloth(t.now()) == NONE) {
            throw t.fault(2);
        }
        int cloth = s.cloth(t.now());
        t.pass();
        return cloth;
    }

    private static int so(boolean b) {
        return b ? 1 : 0;
    }

    private static Function<Facts, Integer> e(Tokens t, int within) {
        Function<Facts, Integer> left = test(t, within);
        while (t.is("and") || t.is("or")) {
            boolean and = t.pass().equals("and");
            Function<Facts, Integer> a = left;
            Function<Facts, Integer> b = test(t, within);
            left = and ? f -> so(a.apply(f) != 0 && b.apply(f) != 0) : f -> so(a.apply(f) != 0 || b.apply(f) != 0);
        }
        return left;
    }

    private static Function<Facts, Integer> test(Tokens t, int within) {
        Function<Facts, Integer> a = sum(t, within);
        if (t.is("<")) {
            t.pass();
            Function<Facts, Integer> b = sum(t, within);
            return f -> so(a.apply(f) < b.apply(f));
        }
        if (t.is("=")) {
            t.pass();
            Function<Facts, Integer> b = sum(t, within);
            return f -> so(a.apply(f).intValue() == b.apply(f).intValue());
        }
        return a;
    }

    private static Function<Facts, Integer> sum(Tokens t, int within) {
        Function<Facts, Integer> left = product(t, within);
        while (t.is("+") || t.is("-")) {
            int sign = t.pass().equals("+") ? 1 : -1;
            Function<Facts, Integer> a = left;
            Function<Facts, Integer> b = product(t, within);
            left = f -> a.apply(f) + sign * b.apply(f);
        }
        return left;
    }

    private static Function<Facts, Integer> product(Tokens t, int within) {
        Function<Facts, Integer> left = part(t, within);
        while (t.is("*")) {
            t.pass();
            Function<Facts, Integer> a = left;
            Function<Facts, Integer> b = part(t, within);
            left = f -> a.apply(f) * b.apply(f);
        }
        return left;
    }

    private static Function<Facts, Integer> part(Tokens t, int within) {
        if (!t.isNumber() && !FACTS.contains(t.now()) && !t.is("not") && !t.is("(")) {
            throw t.fault(1);
        }
        if (within == 5) {
            throw t.fault(5);
        }
        String first = t.pass();
        switch (first) {
            case "not" -> {
                Function<Facts, Integer> a = part(t, within + 1);
                return f -> so(a.apply(f) == 0);
            }
            case "(" -> {
                Function<Facts, Integer> a = e(t, within + 1);
                t.pass(")");
                return a;
            }
            case "damp" -> {
                return Facts::damp;
            }
            case "loose" -> {
                return Facts::loose;
            }
            case "sun" -> {
                return Facts::sun;
            }
            case "clock" -> {
                return Facts::clock;
            }
            default -> {
                int value = Integer.parseInt(first);
                return f -> value;
            }
        }
    }

    int morning() {
        Tokens t = new Tokens(takeTape());
        List<Row> read = new ArrayList<>();
        try {
            while (!t.is("")) {
                if (!List.of("hang", "take", "wash", "hour").contains(t.now())) {
                    throw t.fault(1);
                }
                if (read.size() == 40) {
                    throw t.fault(5);
                }
                String deed = t.pass();
                int cloth = deed.equals("hour") ? NONE : clothOf(t, street);
                int line = NONE;
                int pegs = 0;
                if (deed.equals("hang")) {
                    line = lineOf(t, street);
                    t.pass();
                    pegs = t.number(1, 3);
                }
                t.pass(";");
                read.add(new Row(deed, cloth, line, pegs));
            }
        } catch (Fault f) {
            return f.code;
        }
        rows = read;
        return 0;
    }

    // ---- the rules of hanging

    private boolean isCloth(int c) {
        return c >= 0 && c < street.cloths.size();
    }

    private boolean isLine(int l) {
        return l >= 0 && l < street.lines.size();
    }

    private boolean isPlace(int p) {
        return p >= 0 && p < street.places.size();
    }

    private static boolean isWeather(int w) {
        return w >= -1 && w <= 3;
    }

    private int free(State s, int line) {
        return street.lines.get(line).pegs()
            - s.hung().values().stream().filter(p -> p.line() == line).mapToInt(Peg::pegs).sum();
    }

    private boolean doHang(State s, int c, int l, int pegs) {
        if (!isCloth(c) || !isLine(l) || pegs < 1 || pegs > 3 || s.hung().containsKey(c) || free(s, l) < pegs) {
            return false;
        }
        s.hung().put(c, new Peg(l, pegs));
        return true;
    }

    private boolean doTake(State s, int c) {
        return s.hung().remove(c) != null;
    }

    private boolean doWash(State s, int c) {
        if (!isCloth(c) || s.hung().containsKey(c)) {
            return false;
        }
        s.wet().put(c, street.cloths.get(c).wet());
        return true;
    }

    private State hourOf(State s, boolean dries) {
        State next = new State(new HashMap<>(s.wet()), new TreeMap<>(s.hung()), s.hour() + 1);
        if (dries) {
            int sun = 0;
            for (int c : s.hung().keySet()) {
                if (s.wet().get(c) > 0 && street.cloths.get(c).kind().equals("shirt")) {
                    sun++;
                }
            }
            for (int c : s.hung().keySet()) {
                int loose = 3 - s.hung().get(c).pegs();
                int less = street.dries == null ? 1 + loose
                    : street.dries.apply(new Facts(s.wet().get(c), loose, sun, s.hour()));
                less = less < 0 ? 0 : less > 9 ? 9 : less;
                next.wet().put(c, Math.max(0, s.wet().get(c) - less));
            }
        }
        return next;
    }

    private State hoursOf(State s, int n) {
        State t = s;
        for (int i = 0; i < n; i++) {
            t = hourOf(t, true);
        }
        return t;
    }

    private int manyOf(State s, int p, String kind) {
        int n = 0;
        for (int c : s.hung().keySet()) {
            if (s.wet().get(c) > 0 && street.places.get(p).under().contains(s.hung().get(c).line())
                && street.cloths.get(c).kind().equals(kind)) {
                n++;
            }
        }
        return n;
    }

    private int weather(State s, int p) {
        String best = null;
        for (String kind : FIRST) {
            int n = manyOf(s, p, kind);
            if (n > 0 && (best == null || n > manyOf(s, p, best))) {
                best = kind;
            }
        }
        return best == null ? NONE : KINDS.indexOf(best);
    }

    private int wind(State s, int p) {
        int w = 0;
        for (Peg peg : s.hung().values()) {
            if (street.places.get(p).under().contains(peg.line())) {
                w += 3 - peg.pegs();
            }
        }
        return w;
    }

    private boolean thunder(State s) {
        for (int p = 0; p < street.places.size(); p++) {
            if (weather(s, p) == KINDS.indexOf("skirt")) {
                return true;
            }
        }
        return false;
    }

    private void keep() {
        undo.add(now.copy());
        if (undo.size() > 16) {
            undo.remove(0);
        }
    }

    private static int bits(Iterable<Integer> numbers) {
        int b = 0;
        for (int n : numbers) {
            b |= 1 << n;
        }
        return b;
    }

    // ---- the face

    int line(int line, int what) {
        if (!isLine(line) || what < 0 || what > 3) {
            return NONE;
        }
        if (what == 0) {
            return street.lines.get(line).pegs();
        }
        if (what == 1) {
            return free(now, line);
        }
        Set<Integer> found = new HashSet<>();
        if (what == 2) {
            now.hung().forEach((c, p) -> {
                if (p.line() == line) {
                    found.add(c);
                }
            });
        } else {
            for (int other = 0; other < street.lines.size(); other++) {
                if (other != line && street.crossings.contains(Set.of(line, other))) {
                    found.add(other);
                }
            }
        }
        return bits(found);
    }

    int cloth(int c, int what) {
        if (!isCloth(c)) {
            return -2;
        }
        Peg peg = now.hung().get(c);
        return switch (what) {
            case 0 -> KINDS.indexOf(street.cloths.get(c).kind());
            case 1 -> now.wet().get(c);
            case 2 -> peg == null ? NONE : peg.line();
            case 3 -> peg == null ? 0 : peg.pegs();
            case 4 -> street.cloths.get(c).wet();
            default -> -2;
        };
    }

    int place(int p, int what) {
        if (!isPlace(p)) {
            return -2;
        }
        return switch (what) {
            case 0 -> weather(now, p);
            case 1 -> weather(now, p) == NONE ? 0 : manyOf(now, p, KINDS.get(weather(now, p)));
            case 2 -> wind(now, p);
            case 3 -> bits(street.places.get(p).under());
            default -> -2;
        };
    }

    int hang(int c, int l, int pegs) {
        State s = now.copy();
        if (!doHang(s, c, l, pegs)) {
            return NONE;
        }
        keep();
        now = s;
        return free(now, l);
    }

    int take(int c) {
        State s = now.copy();
        if (!doTake(s, c)) {
            return NONE;
        }
        keep();
        now = s;
        return now.wet().get(c);
    }

    boolean wash(int c) {
        State s = now.copy();
        if (!doWash(s, c)) {
            return false;
        }
        keep();
        now = s;
        return true;
    }

    int hour() {
        keep();
        State before = now;
        now = hourOf(now, true);
        Set<Integer> dried = new HashSet<>();
        for (int c = 0; c < street.cloths.size(); c++) {
            if (before.wet().get(c) > 0 && now.wet().get(c) == 0) {
                dried.add(c);
            }
        }
        return bits(dried);
    }

    boolean undo() {
        if (undo.isEmpty()) {
            return false;
        }
        now = undo.remove(undo.size() - 1);
        return true;
    }

    int judged(int what) {
        if (what < 0 || what > 2) {
            return -2;
        }
        State s = begin();
        int cannot = NONE;
        int thunder = NONE;
        for (int i = 0; i < rows.size(); i++) {
            Row r = rows.get(i);
            boolean can = switch (r.deed()) {
                case "hang" -> doHang(s, r.cloth(), r.line(), r.pegs());
                case "take" -> doTake(s, r.cloth());
                case "wash" -> doWash(s, r.cloth());
                default -> true;
            };
            if (r.deed().equals("hour")) {
                s = hourOf(s, true);
            }
            cannot = cannot == NONE && !can ? i : cannot;
            thunder = thunder == NONE && thunder(s) ? i : thunder;
        }
        State end = s;
        int dry = (int) s.hung().keySet().stream().filter(c -> end.wet().get(c) == 0).count();
        return what == 0 ? cannot : what == 1 ? thunder : dry;
    }

    int later(int p, int hours) {
        return !isPlace(p) || hours < 0 || hours > 40 ? -2 : weather(hoursOf(now, hours), p);
    }

    int dry(int c) {
        State s = now;
        for (int h = 0; now.hung().containsKey(c) && h <= 40; h++) {
            if (s.wet().get(c) == 0) {
                return h;
            }
            s = hourOf(s, true);
        }
        return NONE;
    }

    int clears(int p) {
        State s = now;
        for (int h = 0; isPlace(p) && h <= 40; h++) {
            if (weather(s, p) == NONE) {
                return h;
            }
            s = hourOf(s, true);
        }
        return NONE;
    }

    boolean want(int p, int weather) {
        if (!isPlace(p) || !isWeather(weather)) {
            return false;
        }
        wanted.put(p, weather);
        return true;
    }

    /** All rows in their order: a line, or (one more than all lines) not hung. */
    int wish(int c) {
        if (c != NONE && !isCloth(c)) {
            return -2;
        }
        int n = street.cloths.size();
        int choices = street.lines.size() + 1;
        long all = 1;
        for (int i = 0; i < n; i++) {
            all *= choices;
        }
        int[] best = null;
        int fewest = 7;
        for (long number = 0; number < all; number++) {
            int[] row = new int[n];
            long rest = number;
            int hung = 0;
            for (int i = n - 1; i >= 0; i--) {
                row[i] = (int) (rest % choices);
                rest /= choices;
                hung += row[i] < choices - 1 ? 1 : 0;
            }
            if (hung < fewest && fulfils(row, choices - 1)) {
                best = row;
                fewest = hung;
            }
        }
        if (best == null) {
            return -2;
        }
        return c == NONE ? fewest : best[c] == choices - 1 ? NONE : best[c];
    }

    private boolean fulfils(int[] row, int not) {
        State s = now.copy();
        for (int c = 0; c < row.length; c++) {
            if (row[c] != not && !doHang(s, c, row[c], 1)) {
                return false;
            }
        }
        return wanted.entrySet().stream().allMatch(w -> weather(s, w.getKey()) == w.getValue());
    }

    int lift(int p, int weather) {
        if (!isPlace(p) || !isWeather(weather)) {
            return NONE;
        }
        for (int size = 0; size <= 6; size++) {
            for (int set = 0; set < 64; set++) {
                State s = now.copy();
                int taken = 0;
                for (int c = 0; c < 6; c++) {
                    taken += (set & 1 << c) != 0 && doTake(s, c) ? 1 : 0;
                }
                if (Integer.bitCount(set) == size && taken == size && weather(s, p) == weather) {
                    return set;
                }
            }
        }
        return NONE;
    }

    boolean tell(int p, int hours, int weather) {
        if (!isPlace(p) || hours < 0 || hours > 12 || !isWeather(weather) || told.size() == 6) {
            return false;
        }
        told.add(new Told(p, hours, weather));
        return true;
    }

    private List<int[]> allPairs() {
        List<int[]> found = new ArrayList<>();
        for (int c = 0; c < street.cloths.size(); c++) {
            for (int l = 0; l < street.lines.size(); l++) {
                State s = now.copy();
                if (doHang(s, c, l, 1)
                    && told.stream().allMatch(t -> weather(hoursOf(s, t.hours()), t.place()) == t.weather())) {
                    found.add(new int[] {c, l});
                }
            }
        }
        return found;
    }

    int pairs(int what) {
        if (what < 0 || what > 2) {
            return NONE;
        }
        List<int[]> found = allPairs();
        return what == 0 ? found.size() : bits(found.stream().map(pair -> pair[what - 1]).toList());
    }

    int look(int hours) {
        if (hours < 0 || hours > 12) {
            return NONE;
        }
        List<int[]> found = allPairs();
        int best = NONE;
        int least = found.size();
        for (int p = 0; p < street.places.size(); p++) {
            Map<Integer, Integer> many = new HashMap<>();
            for (int[] pair : found) {
                State s = now.copy();
                doHang(s, pair[0], pair[1], 1);
                many.merge(weather(hoursOf(s, hours), p), 1, Integer::sum);
            }
            int greatest = many.values().stream().mapToInt(v -> v).max().orElse(0);
            if (greatest < least) {
                least = greatest;
                best = p;
            }
        }
        return best;
    }

    private boolean wetOn(int line, boolean shirt) {
        return now.hung().entrySet().stream().anyMatch(h -> h.getValue().line() == line
            && now.wet().get(h.getKey()) > 0
            && street.cloths.get(h.getKey()).kind().equals("shirt") == shirt);
    }

    private boolean rainbow(int a, int b) {
        return wetOn(a, true) && wetOn(b, false) || wetOn(b, true) && wetOn(a, false);
    }

    int rainbows() {
        int n = 0;
        for (Set<Integer> pair : street.crossings) {
            List<Integer> two = new ArrayList<>(pair);
            n += rainbow(two.get(0), two.get(1)) ? 1 : 0;
        }
        return n;
    }

    int quarrels() {
        int n = 0;
        for (Set<Integer> pair : street.crossings) {
            List<Integer> two = new ArrayList<>(pair);
            boolean both = two.stream().allMatch(l -> wetOn(l, true) || wetOn(l, false));
            n += both && !rainbow(two.get(0), two.get(1)) ? 1 : 0;
        }
        return n;
    }

    int best(int c) {
        int best = NONE;
        int most = 0;
        for (int l = 0; l < street.lines.size(); l++) {
            State s = now.copy();
            if (doHang(s, c, l, 1)) {
                int changed = 0;
                for (int p = 0; p < street.places.size(); p++) {
                    changed += weather(s, p) != weather(now, p) ? 1 : 0;
                }
                if (changed > most) {
                    most = changed;
                    best = l;
                }
            }
        }
        return best;
    }

    int owes(int p) {
        for (int c = 0; isPlace(p) && c < street.cloths.size(); c++) {
            State s = now.copy();
            if (doTake(s, c) && weather(s, p) != weather(now, p)) {
                return c;
            }
        }
        return NONE;
    }

    /** Every way through the hours, as bits: 1 they dry. */
    int chance(int c, int hours, int odds) {
        if (!now.hung().containsKey(c) || hours < 1 || hours > 6 || odds < 0 || odds > 10) {
            return NONE;
        }
        long sum = 0;
        long all = 1;
        for (int h = 0; h < hours; h++) {
            all *= 10;
        }
        for (int way = 0; way < 1 << hours; way++) {
            State s = now;
            long weight = 1;
            for (int h = 0; h < hours; h++) {
                boolean dries = (way & 1 << h) != 0;
                weight *= dries ? odds : 10 - odds;
                s = hourOf(s, dries);
            }
            sum += s.wet().get(c) == 0 ? weight : 0;
        }
        return (int) (sum * 1000000 / all);
    }

    int same() {
        int n = 0;
        for (int a = 0; a < street.places.size(); a++) {
            for (int b = 0; b < a; b++) {
                n += weather(now, a) == weather(now, b) ? 1 : 0;
            }
        }
        return n;
    }

    int storm() {
        int best = NONE;
        for (int p = street.places.size() - 1; p >= 0; p--) {
            if (best == NONE || wind(now, p) >= wind(now, best)) {
                best = p;
            }
        }
        return best;
    }

    int last() {
        int best = NONE;
        for (int c = street.cloths.size() - 1; c >= 0; c--) {
            if (dry(c) != NONE && (best == NONE || dry(c) >= dry(best))) {
                best = c;
            }
        }
        return best;
    }

    /** -99 stands for the exception. */
    int rests(int both, int loses, int gets, int what) {
        if (both < 0 || both > 9 || loses < 0 || loses > 9 || gets < 0 || gets > 9) {
            return -99;
        }
        // gets of the first one by 2 * his choice + the other one's
        int[] first = {0, gets, -loses, both};
        List<Integer> found = new ArrayList<>();
        for (int i = 0; i < 4; i++) {
            int turned = (i & 1) * 2 + i / 2;
            if (first[i ^ 2] <= first[i] && first[turned ^ 2] <= first[turned]) {
                found.add(i);
            }
        }
        if (what == NONE) {
            return found.size();
        }
        return what >= 0 && what < found.size() ? found.get(what) : -99;
    }

    int mays(int seed, int hours, int what) {
        if (seed < 0 || seed > 9999 || hours < 1 || hours > 99 || what < 0 || what > 2) {
            return NONE;
        }
        java.math.BigInteger[] g = {java.math.BigInteger.valueOf(seed)};
        Function<Integer, Integer> draw = m -> {
            g[0] = g[0].multiply(java.math.BigInteger.valueOf(1103515245))
                .add(java.math.BigInteger.valueOf(12345)).mod(java.math.BigInteger.valueOf(2147483648L));
            return (int) (g[0].longValue() / 65536 % m);
        };
        State s = now.copy();
        int calm = 0;
        int hung = 0;
        for (int h = 0; h < hours; h++) {
            if (!street.lines.isEmpty() && !street.cloths.isEmpty()) {
                int c = draw.apply(street.cloths.size());
                if (s.hung().containsKey(c)) {
                    if (s.wet().get(c) == 0) {
                        doTake(s, c);
                    }
                } else {
                    doWash(s, c);
                    int l = draw.apply(street.lines.size());
                    int pegs = draw.apply(3) + 1;
                    hung += doHang(s, c, l, pegs) ? 1 : 0;
                }
            }
            s = hourOf(s, true);
            calm += thunder(s) ? 0 : 1;
        }
        return what == 0 ? calm : what == 1 ? hung : bits(s.hung().keySet());
    }

    boolean mark(int mark, boolean back) {
        if (mark < 0 || mark > 3 || back && marks[mark] == null) {
            return false;
        }
        if (back) {
            now = marks[mark].state().copy();
            wanted = new TreeMap<>(marks[mark].wanted());
            told = new ArrayList<>(marks[mark].told());
            undo.clear();
        } else {
            marks[mark] = new Marked(now.copy(), new TreeMap<>(wanted), new ArrayList<>(told));
        }
        return true;
    }

    int count(int what) {
        int free = 0;
        for (int l = 0; l < street.lines.size(); l++) {
            free += free(now, l);
        }
        List<Integer> wet = new ArrayList<>();
        for (int c = 0; c < street.cloths.size(); c++) {
            if (now.wet().get(c) > 0) {
                wet.add(c);
            }
        }
        int[] all = {street.lines.size(), street.places.size(), street.cloths.size(), now.hour(),
            bits(now.hung().keySet()), bits(wet), free, bits(wanted.keySet()), rows.size(), told.size(),
            undo.size(), tape.length()};
        return what < 0 || what >= all.length ? NONE : all[what];
    }

    @Override
    public String toString() {
        return Arrays.asList(street.lines, street.places, street.cloths, now).toString();
    }
}
