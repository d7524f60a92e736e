import java.lang.management.ManagementFactory;

/** All calls of a run live in one room: what 512 of the dearest calls make stays small. */
public final class RoomTest {
    private static final Due DUE = new Due("RoomTest");
    /** A tenth of 7.3 million fields and elements, of four bytes each. */
    private static final long MOST = 2_920_000L;

    public static void main(String[] args) {
        newObjects();
        marksAgainAndAgain();
        searches();
        DUE.close();
    }

    private static long made() {
        return ((com.sun.management.ThreadMXBean) ManagementFactory.getThreadMXBean()).getCurrentThreadAllocatedBytes();
    }

    private static void within(String what, long made) {
        System.out.println("RoomTest: " + what + " made " + made + " bytes");
        DUE.holds(what + " made " + made + " bytes", made <= MOST);
    }

    private static void newObjects() {
        new GalleyMarks();
        long before = made();
        for (int i = 0; i < 30; i++) {
            new GalleyMarks();
        }
        within("30 new objects", made() - before);
    }

    private static int[] packed(String text) {
        int[] four = new int[5];
        for (int i = 0; i < 20; i++) {
            four[i / 4] = four[i / 4] << 8 | (i < text.length() ? text.charAt(i) : 0);
        }
        return four;
    }

    /** Each turn tells a GALLEY and 16 MARKS with TEXTS anew; the calls that tell them are counted, too. */
    private static void marksAgainAndAgain() {
        GalleyMarks x = new GalleyMarks();
        x.hand(1);
        int[] galley = packed("abcdefghijklmnopqrst");
        int[] marks = packed("ins 0 'a';ins 1'b'; ");
        int[] last = packed("ins 0 'a';ins 1'b'  ");
        long before = made();
        int calls = 0;
        while (calls < 512) {
            x.feed(galley[0], galley[1], galley[2], galley[3], galley[4]);
            x.galley();
            for (int i = 0; i < 7; i++) {
                x.feed(marks[0], marks[1], marks[2], marks[3], marks[4]);
            }
            x.feed(last[0], last[1], last[2], last[3], last[4]);
            DUE.due("marks", x.marks(0), 16);
            x.image(calls % 4);
            calls += 12;
        }
        within("MARKS again and again", made() - before);
    }

    private static void searches() {
        GalleyMarks x = Due.with("abcdefghijklmnopqrstuvwx", "");
        Due.wish(x, "xwvutsrqponmlkjihgfedcba".repeat(8));
        for (int k = 0; k < 12; k++) {
            Due.marks(x, 0, "ins " + k + "'abcdefghijklmnopqrst'");
        }
        Due.law(x, "stands rank+agree*2 if [not kind=1 or long>3] and place<100;stands 1");
        x.cost(0, 3);
        x.cost(1, 4);
        long before = made();
        long start = System.nanoTime();
        for (int i = 0; i < 64; i++) {
            x.cost(2, i);
            x.edit(i);
            x.moved(1);
            x.fewest();
            x.out(0);
            x.costs(0, 5 + i % 50);
            x.lines(2, 5);
            x.clashes(0);
        }
        System.out.println("RoomTest: searches took " + (System.nanoTime() - start) / 1_000_000 + " ms");
        within("searches", made() - before);
    }
}
