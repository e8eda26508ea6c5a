import java.util.NoSuchElementException;

/** What the tests share: answers held against the due ones, and texts laid on the tape. */
final class Due {
    private int asked = 0;
    private int wrong = 0;

    void due(String call, long got, long want) {
        asked++;
        if (got != want) {
            wrong++;
            if (wrong <= 50) {
                System.out.println(call + " answered " + got + ", due is " + want);
            }
        }
    }

    void due(String call, boolean got, boolean want) {
        due(call, got ? 1 : 0, want ? 1 : 0);
    }

    /** The fault of a street's text on a new object. */
    void street(String text, int kind, int at) {
        LaundrySky sky = new LaundrySky();
        type(sky, text);
        due("street of '" + text + "'", sky.street(), kind == 0 ? 0 : kind + 16 * at);
    }

    /** The fault of a morning's text on an object that has a street. */
    void morning(LaundrySky sky, String text, int kind, int at) {
        type(sky, text);
        due("morning of '" + text + "'", sky.morning(), kind == 0 ? 0 : kind + 16 * at);
    }

    void noSuch(LaundrySky sky, int both, int loses, int gets, int what) {
        boolean thrown = false;
        try {
            sky.rests(both, loses, gets, what);
        } catch (NoSuchElementException e) {
            thrown = true;
        }
        due("rests(" + both + ", " + loses + ", " + gets + ", " + what + ") throws", thrown, true);
    }

    int asked() {
        return asked;
    }

    int wrong() {
        return wrong;
    }

    /** Ends the program with 1 if an answer was wrong. */
    void end(String name) {
        System.out.println(name + ": " + asked + " answers, " + wrong + " of them wrong");
        if (wrong != 0 || asked == 0) {
            System.exit(1);
        }
    }

    static int type(LaundrySky sky, String text) {
        int there = sky.count(11);
        for (int i = 0; i < text.length(); i += 24) {
            there = sky.feed(eight(text, i), eight(text, i + 8), eight(text, i + 16));
        }
        return there;
    }

    static long eight(String text, int from) {
        long bytes = 0;
        for (int i = from; i < from + 8; i++) {
            bytes = bytes << 8 | (i < text.length() ? text.charAt(i) & 255 : 0);
        }
        return bytes;
    }

    static LaundrySky sky(String street) {
        LaundrySky sky = new LaundrySky();
        type(sky, street);
        int fault = sky.street();
        if (fault != 0) {
            System.out.println("the test's own street has the fault " + fault + ": " + street);
            System.exit(1);
        }
        return sky;
    }
}
