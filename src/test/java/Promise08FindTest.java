/** Promise 8: find finds ALL MATCHES. */
public final class Promise08FindTest {
    public static void main(String[] args) {
        are("a", "banana", "1-2 3-4 5-6");
        are("an", "banana", "1-3 3-5");
        are("ana", "banana", "1-4");
        are("x", "banana", "");
        are("", "", "0-0");
        are("", "ab", "0-0 1-1 2-2");
        are("a*", "baac", "0-0 1-3 3-3 4-4");
        are("a*?", "aa", "0-0 1-1 2-2");
        are("a+?", "aa", "0-1 1-2");
        are("a?", "aaaa", "0-1 1-2 2-3 3-4 4-4");
        are("a|", "ba", "0-0 1-2 2-2");
        are("$", "ab", "2-2");
        are("^", "ab", "0-0");
        are("^a", "aa", "0-1");
        are("\\b", "ab cd", "0-0 2-2 3-3 5-5");
        are("\\w+", "ab, c_d 9", "0-2 4-7 8-9");
        are("(?=aa)", "aaa", "0-0 1-1");
        are("(?=(a))\\w", "aba", "0-1 2-3");
        are(".", "a\nb", "0-1 2-3");
        are("a*+a|b", "aab", "2-3");
        limits();
        whatStays();
        wrongNumbers();
        Check.finish();
    }

    private static void are(String pattern, String text, String want) {
        PatternTrier x = Check.trier(pattern, text);
        int amount = want.isEmpty() ? 0 : want.split(" ").length;
        Check.due("find of " + pattern + " in " + text, () -> x.find(0, 0), amount);
        Check.due("count(2)", () -> x.count(2), amount);
        Check.same("found of " + pattern + " in " + text, Check.found(x), want);
    }

    private static void limits() {
        for (int size : new int[] {0, 1, 299, 300}) {
            PatternTrier y = Check.trier("a|", Check.times("a", size));
            Check.due("find in " + size, () -> y.find(0, 0), size + 1);
            Check.due("the last begin in " + size, () -> y.found(size, 0), size);
            Check.due("the last end in " + size, () -> y.found(size, 1), size);
            Check.due("one more in " + size, () -> y.found(size + 1, 0), Check.BOUNDS);
        }
        PatternTrier x = Check.trier("", Check.times("ab", 150));
        Check.due("300 bytes", () -> x.find(0, 0), 301);
        Check.due("the last one", () -> x.found(300, 1), 300);
        Check.due("none behind", () -> x.found(301, 0), Check.BOUNDS);
        Check.text(x, 1, Check.times("a", 301));
        Check.due("301 bytes", () -> x.find(0, 1), Check.BOUNDS);
        Check.due("found as before", () -> x.count(2), 301);
        Check.due("no pattern before the size", () -> x.find(1, 1), Check.NO_SUCH);
    }

    private static void whatStays() {
        PatternTrier x = Check.trier("a", "aba");
        Check.pattern(x, 1, "b");
        Check.tape(x, "tape");
        Check.due("find", () -> x.find(0, 0), 2);
        Check.due("the tape is not read", () -> x.count(0), 4);
        Check.due("no pattern", () -> x.find(2, 0), Check.NO_SUCH);
        Check.same("found stays", Check.found(x), "0-1 2-3");
        Check.due("another find", () -> x.find(1, 0), 1);
        Check.same("found of it", Check.found(x), "1-2");
        Check.due("nothing is found", () -> x.find(1, 3), 0);
        Check.same("found is nothing", Check.found(x), "");
    }

    private static void wrongNumbers() {
        PatternTrier x = Check.trier("a", "a");
        for (int n : new int[] {-1, 8, Integer.MIN_VALUE, Integer.MAX_VALUE}) {
            Check.due("p " + n, () -> x.find(n, 0), Check.ARGUMENT);
            Check.due("t " + n, () -> x.find(0, n), Check.ARGUMENT);
            Check.due("t before p " + n, () -> x.find(1, n), Check.ARGUMENT);
        }
        Check.due("t 4", () -> x.find(0, 4), Check.ARGUMENT);
    }
}
