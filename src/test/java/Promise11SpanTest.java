/** Promise 11: span counts the bytes at the beginning that a set has, or has not. */
public final class Promise11SpanTest {
    public static void main(String[] args) {
        sets();
        noSets();
        wrongNumbers();
        Check.finish();
    }

    private static void is(String pattern, String text, int has, int hasNot) {
        PatternTrier x = Check.trier(pattern, text);
        Check.due("span of " + pattern + " in " + text, () -> x.span(0, 0, 1), has);
        Check.due("span of none of " + pattern + " in " + text, () -> x.span(0, 0, 0), hasNot);
    }

    private static void sets() {
        is("[ab]", "abac", 3, 0);
        is("[ab]", "cdab", 0, 2);
        is("[ab]", "", 0, 0);
        is("[ab]", "abba", 4, 0);
        is("[ab]", "xyz", 0, 3);
        is("[^ab]", "abac", 0, 3);
        is("[^ab]", "xy\nab", 3, 0);
        is(".", "ab\nc", 2, 0);
        is(".", "\n\nab", 0, 2);
        is("\\d", "12a", 2, 0);
        is("\\D", "ab1", 2, 0);
        is("\\w", "a_9-", 3, 0);
        is("\\W", "- a", 2, 0);
        is("\\s", " \t\n\u000b\f\rx", 6, 0);
        is("\\S", "ab c", 2, 0);
        is("[\\d.]", "3.14x", 4, 0);
        is("[\\]-]", "]-]a", 3, 0);
        is("[ -~]", "abc\u007f", 3, 0);
        is("[^a]", "\u00ff\u0080\u0000a", 3, 0);
        is("[a]", Check.times("a", 1000), 1000, 0);
        is("[a]", Check.times("b", 1000), 0, 1000);
    }

    private static void noSet(String pattern) {
        PatternTrier x = Check.trier(pattern, "aaa");
        Check.due("span of " + pattern, () -> x.span(0, 0, 1), Check.CAST);
        Check.due("span of none of " + pattern, () -> x.span(0, 0, 0), Check.CAST);
        Check.due("span in nothing of " + pattern, () -> x.span(0, 1, 0), Check.CAST);
    }

    private static void noSets() {
        noSet("");
        noSet("a");
        noSet("\\.");
        noSet("\\b");
        noSet("^");
        noSet("$");
        noSet("[a][a]");
        noSet("[a]b");
        noSet("b[a]");
        noSet("[a]*");
        noSet("[a]{1}");
        noSet("[a]|");
        noSet("|[a]");
        noSet("|.");
        noSet("([a])");
        noSet("(?:[a])");
        noSet("(?=.)");
        noSet("..");
        noSet("\\d\\d");
        noSet("[a]|[b]");
    }

    private static void wrongNumbers() {
        PatternTrier x = Check.trier("a", "a");
        Check.pattern(x, 2, "[a]");
        for (int n : new int[] {-1, 8, Integer.MIN_VALUE, Integer.MAX_VALUE}) {
            Check.due("p " + n, () -> x.span(n, 0, 0), Check.ARGUMENT);
            Check.due("t " + n, () -> x.span(1, n, 0), Check.ARGUMENT);
            Check.due("in " + n, () -> x.span(1, 0, n), Check.ARGUMENT);
            Check.due("in before no set " + n, () -> x.span(0, 0, n), Check.ARGUMENT);
        }
        Check.due("t 4", () -> x.span(2, 4, 0), Check.ARGUMENT);
        Check.due("in 2", () -> x.span(2, 0, 2), Check.ARGUMENT);
        Check.due("no pattern", () -> x.span(1, 0, 0), Check.NO_SUCH);
        Check.due("a set", () -> x.span(2, 0, 1), 1);
        Check.pattern(x, 2, "[a]b");
        Check.due("no set now", () -> x.span(2, 0, 1), Check.CAST);
        Check.tape(x, "kept");
        Check.due("again", () -> x.span(2, 0, 1), Check.CAST);
        Check.due("the tape is not read", () -> x.count(0), 4);
    }
}
