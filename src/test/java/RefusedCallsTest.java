/**
 * Terms: "a call that reads THE TAPE leaves it empty, also if it throws" and "A call that throws
 * changes nothing, but as said". Each call is refused in each way it can be, on an object that has
 * all it can have; what the face tells is compared from before to behind it.
 */
public final class RefusedCallsTest {
    private static final int PLACE = 4;
    private static final String TAPE = "k$\u0000\u00ff";
    private static final int[] NO_PATTERNS = {-1, 8, Integer.MIN_VALUE, Integer.MAX_VALUE};
    private static final int[] NO_TEXTS = {-1, 4, Integer.MIN_VALUE, Integer.MAX_VALUE};

    private interface Refused {
        long on(PatternTrier x);
    }

    public static void main(String[] args) {
        feedAndEnd();
        patterns();
        texts();
        matches();
        groupsAndFounds();
        finds();
        replaces();
        spans();
        wordsAndCounts();
        Check.finish();
    }

    /** PATTERNS 0 (two GROUPS), 1 (a SET) and 7, TEXTS 0 and 1 (301 bytes), GROUPS, FOUND, a PLACE. */
    private static PatternTrier made(String tape) {
        PatternTrier x = Check.trier("(a)(b)?", "xabaa");
        Check.pattern(x, 1, "[ab]");
        Check.pattern(x, 7, "b|");
        Check.text(x, 1, Check.times("a", 301));
        x.match(0, 0, 2, 0);
        x.find(1, 0);
        Check.answer(() -> Check.pattern(x, 2, "(a)("));
        Check.tape(x, tape);
        return x;
    }

    /** A call that does not read the tape. */
    private static void leavesAll(String name, Refused call, String want) {
        leavesAll(name, TAPE, call, want);
    }

    private static void leavesAll(String name, String tape, Refused call, String want) {
        PatternTrier x = made(tape);
        String before = Check.state(x);
        Check.due(name, () -> call.on(x), want);
        Check.due("the tape behind " + name, () -> x.count(0), tape.length());
        Check.due("the place behind " + name, () -> x.count(1), PLACE);
        Check.same("all behind " + name, Check.state(x), before);
        x.end(Math.min(1000, tape.length()));
        Check.same("the bytes behind " + name, Check.takenTape(x), tape.substring(0, Math.min(1000, tape.length())));
        patternsAreAsBefore(x, name);
    }

    /** A call that reads the tape; the place is the one that count(1) has to tell then. */
    private static void leavesAllButTape(String name, String tape, Refused call, String want, int place) {
        PatternTrier x = made(tape);
        String before = Check.state(x);
        Check.due(name, () -> call.on(x), want);
        Check.due("the tape behind " + name, () -> x.count(0), 0);
        Check.due("the place behind " + name, () -> x.count(1), place);
        Check.same("all behind " + name, Check.state(x), before);
        Check.due("feed behind " + name, () -> x.feed(0x61620000, 0, 0, 0, 0), 20);
        x.end(2);
        Check.same("the bytes fed behind " + name, Check.takenTape(x), "ab");
        patternsAreAsBefore(x, name);
    }

    private static void patternsAreAsBefore(PatternTrier x, String name) {
        Check.text(x, 2, "xabaa");
        Check.due("PATTERN 0 behind " + name, () -> x.find(0, 2), 3);
        Check.same("its MATCHES", Check.found(x), "1-3 3-4 4-5");
        Check.due("PATTERN 1 behind " + name, () -> x.span(1, 2, 0), 1);
        Check.due("PATTERN 7 behind " + name, () -> x.find(7, 2), 6);
        Check.due("PATTERN 2 behind " + name, () -> x.find(2, 2), Check.NO_SUCH);
    }

    private static void feedAndEnd() {
        leavesAll("feed at 1181", Check.times("t", 999) + "u" + Check.times("v", 181),
                x -> x.feed(1, 2, 3, 4, 5), Check.BOUNDS);
        leavesAll("feed at 1200", Check.times("t", 999) + "u" + Check.times("v", 200),
                x -> x.feed(1, 2, 3, 4, 5), Check.BOUNDS);
        for (int n : new int[] {-1, TAPE.length() + 1, Integer.MIN_VALUE, Integer.MAX_VALUE}) {
            leavesAll("end " + n, x -> x.end(n), Check.ARGUMENT);
        }
    }

    private static void patterns() {
        for (int p : NO_PATTERNS) {
            leavesAllButTape("pattern " + p, "a", x -> x.pattern(p), Check.ARGUMENT, -1);
            leavesAllButTape("broken pattern " + p, "(", x -> x.pattern(p), Check.ARGUMENT, -1);
        }
        for (int p : new int[] {0, 1, 2, 7}) {
            leavesAllButTape("broken pattern " + p, "(c)|[", x -> x.pattern(p), Check.BROKEN, 5);
            leavesAllButTape("long pattern " + p, Check.times("c", 201), x -> x.pattern(p), Check.BROKEN, 200);
            leavesAllButTape("heavy pattern " + p, "(?:c{19}){20}d", x -> x.pattern(p), Check.BOUNDS, -1);
        }
    }

    private static void texts() {
        for (int t : NO_TEXTS) {
            leavesAllButTape("text " + t, "c", x -> x.text(t), Check.ARGUMENT, PLACE);
            leavesAllButTape("long text " + t, Check.times("c", 1001), x -> x.text(t), Check.ARGUMENT, PLACE);
        }
        for (int i = 0; i < 4; i++) {
            int t = i;
            leavesAllButTape("long text " + t, Check.times("c", 1001), x -> x.text(t), Check.BOUNDS, PLACE);
            leavesAllButTape("full text " + t, Check.times("c", 1200), x -> x.text(t), Check.BOUNDS, PLACE);
        }
    }

    private static void matches() {
        for (int p : NO_PATTERNS) {
            leavesAll("match of " + p, x -> x.match(p, 0, 1, 1), Check.ARGUMENT);
        }
        for (int t : NO_TEXTS) {
            leavesAll("match in " + t, x -> x.match(0, t, 1, 1), Check.ARGUMENT);
        }
        for (int how : new int[] {-1, 3, Integer.MIN_VALUE, Integer.MAX_VALUE}) {
            leavesAll("match how " + how, x -> x.match(0, 0, how, 1), Check.ARGUMENT);
        }
        leavesAll("match of none", x -> x.match(2, 0, 1, 1), Check.NO_SUCH);
        for (int a : new int[] {-1, 6, Integer.MIN_VALUE, Integer.MAX_VALUE}) {
            leavesAll("match at " + a, x -> x.match(1, 0, 1, a), Check.BOUNDS);
            leavesAll("match from " + a, x -> x.match(1, 0, 2, a), Check.BOUNDS);
        }
        // It throws nothing, but is no match: the GROUPS are those of the latest that was one.
        leavesAll("match that is none", x -> x.match(0, 0, 1, 0), "-1");
        leavesAll("match that is none to the end", x -> x.match(0, 0, 0, 0), "-1");
        leavesAll("match that is none from 5", x -> x.match(0, 0, 2, 5), "-1");
    }

    private static void groupsAndFounds() {
        for (int n : new int[] {-1, Integer.MIN_VALUE, Integer.MAX_VALUE}) {
            leavesAll("group " + n, x -> x.group(n, 0), Check.ARGUMENT);
            leavesAll("group part " + n, x -> x.group(0, n), Check.ARGUMENT);
            leavesAll("found " + n, x -> x.found(n, 0), Check.BOUNDS);
            leavesAll("found part " + n, x -> x.found(0, n), Check.ARGUMENT);
        }
        leavesAll("group 10", x -> x.group(10, 1), Check.ARGUMENT);
        leavesAll("group part 2", x -> x.group(9, 2), Check.ARGUMENT);
        leavesAll("found 4", x -> x.found(4, 1), Check.BOUNDS);
        leavesAll("found part 2", x -> x.found(3, 2), Check.ARGUMENT);
    }

    private static void finds() {
        for (int p : NO_PATTERNS) {
            leavesAll("find of " + p, x -> x.find(p, 0), Check.ARGUMENT);
        }
        for (int t : NO_TEXTS) {
            leavesAll("find in " + t, x -> x.find(0, t), Check.ARGUMENT);
        }
        leavesAll("find of none", x -> x.find(2, 0), Check.NO_SUCH);
        leavesAll("find in 301 bytes", x -> x.find(0, 1), Check.BOUNDS);
    }

    private static void replaces() {
        for (int p : NO_PATTERNS) {
            leavesAllButTape("replace of " + p, "y", x -> x.replace(p, 0), Check.ARGUMENT, -1);
            leavesAllButTape("broken replace of " + p, "$", x -> x.replace(p, 0), Check.ARGUMENT, -1);
        }
        for (int t : NO_TEXTS) {
            leavesAllButTape("replace in " + t, "y", x -> x.replace(0, t), Check.ARGUMENT, -1);
            leavesAllButTape("broken replace in " + t, "$", x -> x.replace(0, t), Check.ARGUMENT, -1);
        }
        leavesAllButTape("replace of none", "y", x -> x.replace(2, 0), Check.NO_SUCH, -1);
        leavesAllButTape("broken replace of none", "$", x -> x.replace(2, 0), Check.NO_SUCH, -1);
        leavesAllButTape("replace in 301 bytes", "y", x -> x.replace(0, 1), Check.BOUNDS, -1);
        leavesAllButTape("broken replace in 301 bytes", "$", x -> x.replace(0, 1), Check.BOUNDS, -1);
        leavesAllButTape("replace by $", "y$", x -> x.replace(0, 0), Check.BROKEN, 2);
        leavesAllButTape("replace by $y", "$0$y", x -> x.replace(0, 0), Check.BROKEN, 3);
        leavesAllButTape("broken replace of nothing", "y$", x -> x.replace(0, 2), Check.BROKEN, 2);
        // Three MATCHES in "xabaa", one byte around them.
        leavesAllButTape("replace by 334", Check.times("y", 334), x -> x.replace(0, 0), Check.STATE, -1);
        leavesAllButTape("replace by 1200", Check.times("y", 1200), x -> x.replace(0, 0), Check.STATE, -1);
        PatternTrier x = made(Check.times("y", 333));
        Check.due("replace by 333", () -> x.replace(0, 0), 1000);
    }

    private static void spans() {
        for (int p : NO_PATTERNS) {
            leavesAll("span of " + p, x -> x.span(p, 0, 0), Check.ARGUMENT);
        }
        for (int t : NO_TEXTS) {
            leavesAll("span in " + t, x -> x.span(1, t, 0), Check.ARGUMENT);
        }
        for (int in : new int[] {-1, 2, Integer.MIN_VALUE, Integer.MAX_VALUE}) {
            leavesAll("span with " + in, x -> x.span(1, 0, in), Check.ARGUMENT);
        }
        leavesAll("span of none", x -> x.span(2, 0, 1), Check.NO_SUCH);
        leavesAll("span of no SET", x -> x.span(0, 0, 1), Check.CAST);
        leavesAll("span of ways", x -> x.span(7, 0, 0), Check.CAST);
    }

    private static void wordsAndCounts() {
        for (int t : NO_TEXTS) {
            leavesAll("word of " + t, x -> x.word(t, 0), Check.ARGUMENT);
        }
        for (int i : new int[] {-1, 5, Integer.MIN_VALUE, Integer.MAX_VALUE}) {
            leavesAll("word from " + i, x -> x.word(0, i), Check.BOUNDS);
        }
        leavesAll("word of nothing", x -> x.word(2, 0), Check.BOUNDS);
        for (int what : new int[] {-1, 3, 9, 18, 19, 24, 29, 38, Integer.MIN_VALUE, Integer.MAX_VALUE}) {
            leavesAll("count " + what, x -> x.count(what), Check.ARGUMENT);
        }
    }
}
