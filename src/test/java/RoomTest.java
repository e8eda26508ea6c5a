import java.lang.management.ManagementFactory;

/** What a run makes is small: rows are made by the constructor and used again; the dearest calls end soon. */
public final class RoomTest {
    private static final Due DUE = new Due();
    private static final com.sun.management.ThreadMXBean THREADS =
        (com.sun.management.ThreadMXBean) ManagementFactory.getThreadMXBean();

    public static void main(String[] args) {
        run(new LaundrySky());
        long before = made();
        LaundrySky sky = new LaundrySky();
        long constructed = made() - before;
        before = made();
        int calls = run(sky);
        long called = made() - before;
        DUE.due("a new object of " + constructed + " bytes is small", constructed < 60_000, true);
        DUE.due(calls + " calls make " + called + " bytes, next to nothing", called < 2_000, true);
        DUE.due("calls", calls >= 450 && calls <= 512, true);
        DUE.end("RoomTest");
    }

    private static long made() {
        return THREADS.getThreadAllocatedBytes(Thread.currentThread().getId());
    }

    private static final String STREET = "line a pegs 9;line b pegs 9;line c pegs 9;line d pegs 9;line e pegs 9;"
        + "place p under a b;place q under b c;place r under c d;place s under d e a;"
        + "cloth f sheet wet 20;cloth g shirt wet 20;cloth h skirt wet 20;cloth i sock wet 20;cloth j shirt wet 20;"
        + "cloth k skirt wet 20;crosses a b;crosses b c;crosses a c;dries 0*(1";
    private static final String TEXT = STREET + "+1".repeat((1000 - STREET.length() - 2) / 2) + ");";

    private static int run(LaundrySky sky) {
        int calls = 0;
        for (int i = 0; i < TEXT.length(); i += 24) {
            sky.feed(Due.eight(TEXT, i), Due.eight(TEXT, i + 8), Due.eight(TEXT, i + 16));
            calls++;
        }
        DUE.due("street", sky.street(), 0);
        calls++;
        for (int place = 0; place < 4; place++) {
            sky.want(place, 3 - place);
            calls++;
        }
        for (int i = 0; i < 29; i++) {
            calls += round(sky, i);
        }
        return calls;
    }

    private static int round(LaundrySky sky, int i) {
        sky.wish(-1);
        sky.look(12);
        sky.pairs(0);
        sky.tell(0, 12, -1 + i % 5);
        sky.lift(0, 2);
        sky.mays(i, 99, 0);
        sky.hang(i % 6, i % 5, 1);
        sky.later(0, 40);
        sky.last();
        sky.chance(i % 6, 6, 5);
        sky.best(5);
        sky.mark(i % 4, i % 3 == 0);
        sky.hour();
        sky.undo();
        return 14;
    }
}
