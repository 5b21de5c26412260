/** Promise 6: match, to the end, at a place, or at the first place; and what A MATCH is. */
public final class Promise06MatchTest {
    private static final int WHOLE = 0;
    private static final int AT = 1;
    private static final int FROM = 2;

    public static void main(String[] args) {
        atoms();
        sets();
        classes();
        edges();
        ways();
        quantifiers();
        countedRounds();
        lessFirst();
        kept();
        emptyRounds();
        ahead();
        toTheEnd();
        places();
        placesUpToTheSize();
        wrongNumbers();
        Check.finish();
    }

    private static void is(String pattern, String text, int how, int a, int want) {
        PatternTrier x = Check.trier(pattern, text);
        Check.due(pattern + " on " + text + ", how " + how + ", a " + a, () -> x.match(0, 0, how, a), want);
    }

    private static void atoms() {
        is("", "", WHOLE, 0, 0);
        is("", "a", WHOLE, 0, -1);
        is("", "a", AT, 0, 0);
        is("", "a", AT, 1, 1);
        is("a", "a", WHOLE, 0, 1);
        is("a", "b", WHOLE, 0, -1);
        is("a", "", WHOLE, 0, -1);
        is("a", "aa", WHOLE, 0, -1);
        is("a", "aa", AT, 1, 2);
        is("a", "aa", AT, 2, -1);
        is("abc", "xabcx", FROM, 0, 4);
        is("abc", "xabcx", FROM, 1, 4);
        is("abc", "xabcx", FROM, 2, -1);
        is(".", "\n", WHOLE, 0, -1);
        is(".", "\r", WHOLE, 0, 1);
        is(".", "\u0000", WHOLE, 0, 1);
        is(".", "\u00ff", WHOLE, 0, 1);
        is("\\.", ".", WHOLE, 0, 1);
        is("\\.", "a", WHOLE, 0, -1);
        is("\\\\\\|\\*\\+\\?\\(\\)\\[\\{\\^\\$", "\\|*+?()[{^$", WHOLE, 0, 11);
        is("]}-", "]}-", WHOLE, 0, 3);
        is("^a$", "a", WHOLE, 0, 1);
        is("^a", "ba", FROM, 0, -1);
        is("^a", "\na", FROM, 0, -1);
        is("^", "ab", AT, 1, -1);
        is("a$", "a\n", FROM, 0, -1);
        is("a$", "aba", FROM, 0, 3);
        is("$", "ab", FROM, 0, 2);
        is("$^", "", AT, 0, 0);
        is("$^", "a", FROM, 0, -1);
    }

    private static void sets() {
        is("[abc]", "b", WHOLE, 0, 1);
        is("[abc]", "d", WHOLE, 0, -1);
        is("[^abc]", "d", WHOLE, 0, 1);
        is("[^abc]", "b", WHOLE, 0, -1);
        is("[^abc]", "\n", WHOLE, 0, 1);
        is("[^abc]", "\u00ff", WHOLE, 0, 1);
        is("[^abc]", "", WHOLE, 0, -1);
        is("[b-d]+", "abcde", FROM, 0, 4);
        is("[a-]+", "b-a-", FROM, 0, 4);
        is("[-a]+", "b-a-", FROM, 0, 4);
        is("[a-\\d]+", "b9a-0", FROM, 1, 5);
        is("[a-\\d]", "b", WHOLE, 0, -1);
        is("[\\d-z]+", "a-5z", FROM, 0, 4);
        is("[\\d-z]", "a", WHOLE, 0, -1);
        is("[+--]+", "*+,-.", FROM, 0, 4);
        is("[a-c-e]+", "a-ec", WHOLE, 0, 4);
        is("[a-c-e]", "d", WHOLE, 0, -1);
        is("[\\]\\\\]+", "a]\\b", FROM, 0, 3);
        is("[^^]", "^", WHOLE, 0, -1);
        is("[a^]", "^", WHOLE, 0, 1);
        is("[.]", "a", WHOLE, 0, -1);
        is("[.$*|()]+", ".$*|()", WHOLE, 0, 6);
        is("[[]", "[", WHOLE, 0, 1);
        is("[\\W]", "_", WHOLE, 0, -1);
        is("[^\\W]", "_", WHOLE, 0, 1);
        is("[\\d\\D]", "\u0080", WHOLE, 0, 1);
        is("[^\\d\\D]", "a", WHOLE, 0, -1);
        is("[ -~]+", "\t Az~\u007f", FROM, 0, 5);
        is("[\\s\\d]+", "a 1\t2b", FROM, 0, 5);
    }

    private static void classes() {
        for (int b = 0; b < 256; b++) {
            String text = String.valueOf((char) b);
            boolean digit = b >= '0' && b <= '9';
            boolean word = digit || b >= 'a' && b <= 'z' || b >= 'A' && b <= 'Z' || b == '_';
            boolean space = b >= 9 && b <= 13 || b == 32;
            is("\\d", text, WHOLE, 0, digit ? 1 : -1);
            is("\\D", text, WHOLE, 0, digit ? -1 : 1);
            is("\\w", text, WHOLE, 0, word ? 1 : -1);
            is("\\W", text, WHOLE, 0, word ? -1 : 1);
            is("\\s", text, WHOLE, 0, space ? 1 : -1);
            is("\\S", text, WHOLE, 0, space ? -1 : 1);
            is("\\b[\\d\\D]\\b", text, WHOLE, 0, word ? 1 : -1);
            is(".", text, WHOLE, 0, b == 10 ? -1 : 1);
        }
    }

    private static void edges() {
        is("\\b", "", AT, 0, -1);
        is("\\B", "", AT, 0, 0);
        is("\\b", "a", AT, 0, 0);
        is("\\b", "a", AT, 1, 1);
        is("\\b", "-", AT, 0, -1);
        is("\\B", "-", AT, 1, 1);
        is("\\bab\\b", "cab ab_ ab", FROM, 0, 10);
        is("a\\Bb", "ab", WHOLE, 0, 2);
        is("a\\bb", "ab", WHOLE, 0, -1);
        is("a\\b-", "a-", WHOLE, 0, 2);
        is("_\\b", "_\u00e9", FROM, 0, 1);
    }

    private static void ways() {
        is("a|ab", "ab", AT, 0, 1);
        is("ab|a", "ab", AT, 0, 2);
        is("a|ab", "ab", WHOLE, 0, 2);
        is("|a", "a", AT, 0, 0);
        is("a|", "b", AT, 0, 0);
        is("a||b", "b", AT, 0, 0);
        is("(?:a|ab)(?:c|bcd)", "abcd", AT, 0, 4);
        is("(a|ab)(c|bcd)(d*)", "abcd", AT, 0, 4);
        is("x|y|z", "z", WHOLE, 0, 1);
        is("(?:x|y|z)w", "zw", WHOLE, 0, 2);
    }

    private static void quantifiers() {
        is("a*", "aaab", AT, 0, 3);
        is("a*", "b", AT, 0, 0);
        is("a+", "aaab", AT, 0, 3);
        is("a+", "b", AT, 0, -1);
        is("a?", "aa", AT, 0, 1);
        is("a?", "b", AT, 0, 0);
        is("a*ab", "aaab", WHOLE, 0, 4);
        is("(?:ab)*", "ababa", AT, 0, 4);
        is(".*b", "abcbd", AT, 0, 4);
        is(".*", "ab\ncd", AT, 0, 2);
        is("(?:.|\\s)*", "ab\ncd", AT, 0, 5);
    }

    private static void countedRounds() {
        is("a{3}", "aaaa", AT, 0, 3);
        is("a{3}", "aa", AT, 0, -1);
        is("a{2,}", "aaaa", AT, 0, 4);
        is("a{2,}", "a", AT, 0, -1);
        is("a{2,3}", "aaaa", AT, 0, 3);
        is("a{2,3}", "aa", AT, 0, 2);
        is("a{2,3}", "a", AT, 0, -1);
        is("a{0}b", "ab", AT, 0, -1);
        is("a{0}b", "b", AT, 0, 1);
        is("a{0,2}a", "aa", WHOLE, 0, 2);
        is("a{20}", Check.times("a", 20), WHOLE, 0, 20);
        is("a{20}", Check.times("a", 19), WHOLE, 0, -1);
        is("(?:ab?){2,4}", "abaab", WHOLE, 0, 5);
        is("(?:a|ab){3}", "abaab", AT, 0, 4);
        is("(?:a|ab){3}c", "abaabc", AT, 0, 6);
    }

    private static void lessFirst() {
        is("a*?", "aaa", AT, 0, 0);
        is("a+?", "aaa", AT, 0, 1);
        is("a??", "a", AT, 0, 0);
        is("a??", "a", WHOLE, 0, 1);
        is("a{2,}?", "aaaa", AT, 0, 2);
        is("a{1,3}?", "aaa", AT, 0, 1);
        is("a{1,3}?b", "aaab", AT, 0, 4);
        is("a{1,3}?b", "aaaab", AT, 0, -1);
        is("a{2}?", "aaa", AT, 0, 2);
        is(".*?b", "abcb", AT, 0, 2);
        is(".*?b", "abcb", WHOLE, 0, 4);
    }

    private static void kept() {
        is("a*+a", "aaa", FROM, 0, -1);
        is("a*+b", "aaab", AT, 0, 4);
        is("a++", "aaa", WHOLE, 0, 3);
        is("a?+a", "a", FROM, 0, -1);
        is("a?+a", "aa", WHOLE, 0, 2);
        is("a{1,2}+a", "aa", FROM, 0, -1);
        is("a{1,2}+a", "aaa", WHOLE, 0, 3);
        is("a{2}+a", "aaa", WHOLE, 0, 3);
        is("(?:a|ab){1}+c", "abc", FROM, 0, -1);
        is("(?:ab|a){1}+c", "abc", WHOLE, 0, 3);
        is("(?:a|ab)?+b", "abb", WHOLE, 0, -1);
        is("(?:a*?){1}+b", "ab", AT, 0, -1);
        is("(?:a+?)*+b", "aab", AT, 0, 3);
        is("\"[^\"]*+\"", "x\"yz\"w", FROM, 0, 5);
        is("(?:a*+b|c)*", "aabcab", WHOLE, 0, 6);
        is("(?:a*+)*", "aaa", AT, 0, 3);
        is("(?:a*+|b)*", "aba", AT, 0, 3);
        is("(?:a*+|b)*c", "abac", AT, 0, 4);
    }

    private static void emptyRounds() {
        is("(?:)*", "a", AT, 0, 0);
        is("(?:)+", "a", AT, 0, 0);
        is("(?:){5,}", "a", AT, 0, 0);
        is("(?:|a)*", "aa", AT, 0, 2);
        is("(?:|a)+", "aa", AT, 0, 2);
        is("(?:|a)+?", "aa", AT, 0, 0);
        is("(?:|a)?", "a", AT, 0, 0);
        is("(?:|a){0,3}", "aaa", AT, 0, 0);
        is("(?:|a){3}", "aaa", AT, 0, 0);
        is("(?:|a){3}", "aaa", WHOLE, 0, 3);
        is("(?:|a){2,}", "aaa", AT, 0, 3);
        is("(?:a*)*", "aaa", AT, 0, 3);
        is("(?:a*)+b", "aaab", AT, 0, 4);
        is("(?:a*?)*b", "aab", AT, 0, 3);
        is("(?:(?:a|)*|b)*c", "abac", AT, 0, 4);
        is("(?:(?:|a)(?:|b))*", "abba", AT, 0, 4);
        is("(?:\\b|a)*", "aa", AT, 0, 2);
    }

    private static void ahead() {
        is("(?=a)", "a", AT, 0, 0);
        is("(?=a)", "b", AT, 0, -1);
        is("(?!a)", "a", AT, 0, -1);
        is("(?!a)", "b", AT, 0, 0);
        is("(?!a)", "", AT, 0, 0);
        is("(?=)", "", AT, 0, 0);
        is("(?!)", "a", FROM, 0, -1);
        is("a(?=b)", "acab", FROM, 0, 3);
        is("a(?!b)", "abac", FROM, 0, 3);
        is("(?=.*b)a", "aab", AT, 0, 1);
        is("(?=.*b)a", "aac", AT, 0, -1);
        is("(?:(?!ab).)*", "xxab", AT, 0, 2);
        is("(?=(a+))a*b", "aab", AT, 0, 3);
        is("(?:(?=a)a|b)*c", "abac", AT, 0, 4);
        is("(?:(?=ab)|a)*", "aab", AT, 0, 2);
        is("(?=a|ab)ab", "ab", WHOLE, 0, 2);
        is("(?=a$)a", "ab", AT, 0, -1);
        is("(?=a*)", "aab", WHOLE, 0, -1);
    }

    private static void toTheEnd() {
        is("a|ab|abc", "abc", WHOLE, 0, 3);
        is("(?:a|b)*?", "abab", WHOLE, 0, 4);
        is("a*?", "aaa", WHOLE, 0, 3);
        is("a*+", "aab", WHOLE, 0, -1);
        is("(?:a|ab)*+", "ab", WHOLE, 0, -1);
        is("(?=ab)a", "ab", WHOLE, 0, -1);
        is("a", "a", WHOLE, -5, 1);
        is("a", "a", WHOLE, 99, 1);
        is("a", "ba", WHOLE, 1, -1);
    }

    private static void places() {
        is("a", "bab", FROM, 2, -1);
        is("a", "bab", FROM, 1, 2);
        is("", "bab", FROM, 3, 3);
        is("a*", "baa", FROM, 0, 0);
        is("a*", "baa", FROM, 1, 3);
        is("\\ba", "aa", AT, 1, -1);
        is("a", "", AT, 0, -1);
        is("a", "b", AT, 1, -1);
        String text = Check.times("b", 999) + "a";
        is("a", text, FROM, 0, 1000);
        is("a", text, AT, 999, 1000);
        is("", text, AT, 1000, 1000);
        is(".*", text, WHOLE, 0, 1000);
    }

    /** "a 0 .. size, else IndexOutOfBoundsException; with 0 it does not matter". */
    private static void placesUpToTheSize() {
        for (int size : new int[] {0, 1, 2, 999, 1000}) {
            PatternTrier x = Check.trier("", Check.times("a", size));
            Check.pattern(x, 1, "a*");
            for (int a : new int[] {0, size}) {
                Check.due("at " + a + " of " + size, () -> x.match(0, 0, 1, a), a);
                Check.due("from " + a + " of " + size, () -> x.match(0, 0, 2, a), a);
            }
            for (int a : new int[] {Integer.MIN_VALUE, -1, size + 1, Integer.MAX_VALUE}) {
                Check.due("at " + a + " of " + size, () -> x.match(0, 0, 1, a), Check.BOUNDS);
                Check.due("from " + a + " of " + size, () -> x.match(0, 0, 2, a), Check.BOUNDS);
                Check.due("to the end with " + a, () -> x.match(1, 0, 0, a), size);
                Check.same("its groups", Check.groups(x, 0), "0-" + size);
            }
        }
    }

    private static void wrongNumbers() {
        PatternTrier x = Check.trier("a", "ab");
        int[] wrong = {-1, Integer.MIN_VALUE, Integer.MAX_VALUE};
        for (int n : wrong) {
            Check.due("p " + n, () -> x.match(n, 0, 0, 0), Check.ARGUMENT);
            Check.due("t " + n, () -> x.match(0, n, 0, 0), Check.ARGUMENT);
            Check.due("how " + n, () -> x.match(0, 0, n, 0), Check.ARGUMENT);
            Check.due("a " + n, () -> x.match(0, 0, 1, n), Check.BOUNDS);
            Check.due("a " + n, () -> x.match(0, 0, 2, n), Check.BOUNDS);
        }
        Check.due("p 8", () -> x.match(8, 0, 0, 0), Check.ARGUMENT);
        Check.due("t 4", () -> x.match(0, 4, 0, 0), Check.ARGUMENT);
        Check.due("how 3", () -> x.match(0, 0, 3, 0), Check.ARGUMENT);
        Check.due("a 3", () -> x.match(0, 0, 1, 3), Check.BOUNDS);
        Check.due("a 3", () -> x.match(0, 0, 2, 3), Check.BOUNDS);
        Check.due("a 2", () -> x.match(0, 0, 1, 2), -1);
        Check.due("no pattern", () -> x.match(1, 0, 0, 0), Check.NO_SUCH);
        Check.due("no pattern before a", () -> x.match(1, 0, 1, 9), Check.NO_SUCH);
        Check.due("t before no pattern", () -> x.match(1, 4, 1, 9), Check.ARGUMENT);
        Check.due("how before no pattern", () -> x.match(1, 0, 3, 9), Check.ARGUMENT);
        Check.tape(x, "kept");
        x.match(0, 0, 1, 0);
        Check.due("the tape is not read", () -> x.count(0), 4);
    }
}
