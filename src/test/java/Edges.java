import java.io.IOException;
import java.nio.file.Files;
import java.nio.file.Path;
import java.util.NoSuchElementException;
import java.util.Set;
import java.util.TreeSet;

/**
 * Tests by the document's own sentences: each that names an edge is quoted, and what is due there stands behind
 * it. A quote that is not in the document, or that no answer was held against, counts as wrong.
 */
final class Edges {
    private static final Path DOCUMENT = Path.of("..", "shared", "DOC.md");

    private final Due due = new Due();
    private final String document = read();
    private final Set<Integer> promises = new TreeSet<>();
    private String sentence = "";
    private int sentences = 0;
    private int askedAhead = 0;

    // ---- sentences

    /** What follows tests a sentence of the Terms. */
    void terms(String quote) {
        begin(quote, section("## Terms", "## Promise 1:"));
    }

    /** What follows tests a sentence of a promise. */
    void promise(int number, String quote) {
        promises.add(number);
        String next = number < 34 ? "## Promise " + (number + 1) + ":" : "## Not promised";
        begin("Promise " + number + ": " + quote, quote, section("## Promise " + number + ":", next));
    }

    /** The numbers of the promises of which a sentence was tested. */
    Set<Integer> promises() {
        return promises;
    }

    private void begin(String quote, String section) {
        begin(quote, quote, section);
    }

    private void begin(String name, String quote, String section) {
        close();
        sentence = name;
        sentences++;
        askedAhead = due.asked();
        if (!section.isEmpty() && !section.contains(quote)) {
            due.due("the document does not say: " + name, false, true);
        }
    }

    private void close() {
        if (sentences > 0 && due.asked() == askedAhead) {
            due.due("no test of: " + sentence, false, true);
        }
    }

    private String section(String from, String to) {
        if (document.isEmpty()) {
            return "";
        }
        return document.substring(document.indexOf(from), document.indexOf(to));
    }

    private static String read() {
        if (!Files.exists(DOCUMENT)) {
            System.out.println("no " + DOCUMENT + ": the quotes are not held against it");
            return "";
        }
        try {
            return Files.readString(DOCUMENT).replaceAll("\\s+", " ");
        } catch (IOException e) {
            throw new IllegalStateException(e);
        }
    }

    void end(String name) {
        close();
        System.out.println(name + ": " + sentences + " sentences");
        due.end(name);
    }

    // ---- answers

    void due(String what, long got, long want) {
        due.due("[" + sentence + "] " + what, got, want);
    }

    void due(String what, boolean got, boolean want) {
        due.due("[" + sentence + "] " + what, got, want);
    }

    /** The fault of a street's text on a new object; kind 0: none. */
    void street(String text, int kind, int at) {
        LaundrySky sky = new LaundrySky();
        Due.type(sky, text);
        due("street of '" + text + "'", sky.street(), kind == 0 ? 0 : kind + 16 * at);
    }

    /** The fault is that of the text's last token. */
    void streetEndsWith(String text, String last, int kind) {
        street(text + last, kind, text.length());
    }

    void morning(LaundrySky sky, String text, int kind, int at) {
        Due.type(sky, text);
        due("morning of '" + text + "'", sky.morning(), kind == 0 ? 0 : kind + 16 * at);
    }

    void morningEndsWith(LaundrySky sky, String text, String last, int kind) {
        morning(sky, text + last, kind, text.length());
    }

    void noSuch(int both, int loses, int gets, int what) {
        boolean thrown = false;
        try {
            new LaundrySky().rests(both, loses, gets, what);
        } catch (NoSuchElementException e) {
            thrown = true;
        }
        due("rests(" + both + ", " + loses + ", " + gets + ", " + what + ") throws", thrown, true);
    }

    /** All is as it was when the other answers were given. */
    void stays(String what, LaundrySky sky, String before) {
        String after = all(sky);
        due(what + ": " + before + " became " + after, after.equals(before), true);
    }

    /** All that can be asked without a change, as a text. */
    static String all(LaundrySky sky) {
        StringBuilder text = new StringBuilder();
        for (int what = 0; what <= 11; what++) {
            text.append(sky.count(what)).append(' ');
        }
        for (int i = 0; i < 6; i++) {
            for (int what = 0; what <= 4; what++) {
                text.append(sky.line(i, what)).append(' ').append(sky.cloth(i, what)).append(' ')
                    .append(sky.place(i, what)).append(' ');
            }
            text.append(sky.wish(i)).append(' ').append(sky.dry(i)).append(' ').append(sky.clears(i)).append(' ');
        }
        for (int what = 0; what <= 2; what++) {
            text.append(sky.judged(what)).append(' ').append(sky.pairs(what)).append(' ');
        }
        return text.append(sky.wish(-1)).append(' ').append(sky.look(0)).toString();
    }
}
