import com.sun.management.ThreadMXBean;
import java.lang.management.ManagementFactory;

/**
 * "An object is used for at most 512 calls": 512 of the dearest calls are answered, the last one
 * too, and what they make stays within the room that all calls of a run live in.
 */
public final class RoomTest {
    private static final int CALLS = 512;
    private static final long ROOM = 7_300_000;
    // Of the rows only those of bytes have elements smaller than 4 bytes: tapes and texts.
    private static final long BYTES = 3 * 1200 + 5 * 1000;
    private static int calls;

    private RoomTest() {
    }

    public static void main(String[] args) {
        fullPatternsAndTexts();
        replaces();
        refused();
        Check.finish();
    }

    private static ThreadMXBean meter() {
        return (ThreadMXBean) ManagementFactory.getThreadMXBean();
    }

    private static void withinRoom(String name, long before) {
        long made = meter().getCurrentThreadAllocatedBytes() - before;
        boolean fits = made / 4 + BYTES < ROOM;
        Check.same(name + " made " + made + " bytes, within the room", "" + fits, "true");
    }

    private static void feedAll(PatternTrier x, int times, int four) {
        for (int i = 0; i < times; i++) {
            x.feed(four, four, four, four, four);
            calls++;
        }
    }

    private static void feedPattern(PatternTrier x, int p, String pattern) {
        Check.tape(x, pattern);
        x.pattern(p);
        calls += 3 + (pattern.length() + 19) / 20;
    }

    /** Rows that grow: all that is to come back to in 1000 bytes, for the heaviest patterns. */
    private static void fullPatternsAndTexts() {
        String[] patterns = {
            "(?:(?:a?){20}(?:b?){20}(?:c?){20}(?:d?){20}(?:e?){20}z)*",
            "(?:" + Check.times("(){19}", 9) + "z)*",
            "(?:(?:" + Check.times("(?=)", 19) + "){19}z)*",
            "((((((((((?:z)*?)*?)*?)*?)*?)*?)*?)*?)*?)*?$",
            "(?:(?=((((((((z))))))))*)z)*z",
            "(?:" + Check.times("a|", 90) + "z)*",
            "(?:(?:z{0,20}){0,9}y|z)*",
            "(?:z*?z*?z*?z*?z*?z*?z*?z*?z*?z*?y|z)*"
        };
        calls = 0;
        long before = meter().getCurrentThreadAllocatedBytes();
        PatternTrier x = new PatternTrier();
        feedAll(x, 50, 0x7A7A7A7A);
        x.text(0);
        calls++;
        for (int p = 0; p < patterns.length; p++) {
            feedPattern(x, p, patterns[p]);
        }
        for (int k = 0; calls < CALLS - 1; k++, calls++) {
            int p = k % patterns.length;
            int a = 1000 - (k < 16 ? 1000 : k % 40);
            Check.due("match of " + patterns[p] + " at " + a, () -> x.match(p, 0, 1, a), p == 4 && a == 1000 ? -1 : 1000);
        }
        Check.due("the 512th call", () -> x.match(0, 0, 0, 0), 1000);
        withinRoom("512 matches", before);
    }

    private static void replaces() {
        calls = 0;
        long before = meter().getCurrentThreadAllocatedBytes();
        PatternTrier x = new PatternTrier();
        feedPattern(x, 0, "(a)|(?=(b))|(?:a|b)*c");
        for (int k = 0; calls + 24 < CALLS; k++) {
            feedAll(x, 15, 0x61626162);
            x.text(0);
            x.feed(0x24312432, 0, 0, 0, 0);
            x.end(4);
            calls += 5;
            Check.due("replace " + k, () -> x.replace(0, 0), 450);
            Check.due("count " + k, () -> x.count(2), 301 - 1);
        }
        withinRoom("replaces", before);
    }

    /** Refused calls make the exception alone; its own stack is not the object's. */
    private static void refused() {
        PatternTrier x = new PatternTrier();
        for (int k = 0; k < CALLS / 4; k++) {
            Check.due("pattern", () -> x.pattern(8), Check.ARGUMENT);
            Check.due("text", () -> x.text(4), Check.ARGUMENT);
            Check.due("match", () -> x.match(0, 0, 0, 0), Check.NO_SUCH);
            Check.due("word", () -> x.word(0, 0), Check.BOUNDS);
        }
    }
}
