/** Promise 7: group tells the GROUPS of the latest match that was one. */
public final class Promise07GroupTest {
    public static void main(String[] args) {
        simpleGroups();
        groupsInRounds();
        groupsThatAreGoneBackOver();
        groupsInLookaheads();
        groupsInKeptRounds();
        theLatestMatchThatWasOne();
        wrongNumbers();
        Check.finish();
    }

    private static void are(String pattern, String text, int how, String want) {
        PatternTrier x = Check.trier(pattern, text);
        x.match(0, 0, how, 0);
        Check.same("groups of " + pattern + " on " + text + " how " + how,
                Check.groups(x, x.count(30)), want);
    }

    private static void simpleGroups() {
        are("a", "ba", 2, "1-2");
        are("(a)", "ba", 2, "1-2 1-2");
        are("((a)(b))c", "abc", 0, "0-3 0-2 0-1 1-2");
        are("()", "a", 1, "0-0 0-0");
        are("(a)|(b)", "b", 0, "0-1 . 0-1");
        are("(a)?b", "b", 0, "0-1 .");
        are("(a){0}b", "b", 0, "0-1 .");
        are("(a|ab)(c|bcd)(d*)", "abcd", 1, "0-4 0-1 1-4 4-4");
        are("(a|ab)(c|bcd)(d*)", "abcd", 0, "0-4 0-1 1-4 4-4");
        are("(a*?)(a*)", "aa", 0, "0-2 0-0 0-2");
        are("(.)(.)(.)(.)(.)(.)(.)(.)(.)", "abcdefghi", 0,
                "0-9 0-1 1-2 2-3 3-4 4-5 5-6 6-7 7-8 8-9");
        are("(?:a)(b)", "ab", 0, "0-2 1-2");
    }

    private static void groupsInRounds() {
        are("(a)*", "aaa", 0, "0-3 2-3");
        are("(a|(b))*", "ba", 0, "0-2 1-2 0-1");
        are("(?:(a)|(b))*", "abb", 0, "0-3 0-1 2-3");
        are("(?:(a)|b)*", "ab", 0, "0-2 0-1");
        are("(a*)*", "aa", 0, "0-2 0-2");
        are("(a*)*", "b", 1, "0-0 .");
        are("(a*)+", "b", 1, "0-0 0-0");
        are("(a*)+", "aa", 0, "0-2 0-2");
        are("(a*){2}", "aa", 0, "0-2 2-2");
        are("(a*){2,}", "aa", 0, "0-2 2-2");
        are("(a*){0,2}", "aa", 0, "0-2 2-2");
        are("(a*)?", "b", 1, "0-0 0-0");
        are("(a*)??", "b", 1, "0-0 .");
        are("(a|b){2,3}?", "aba", 1, "0-2 1-2");
        are("(|a)*", "aa", 0, "0-2 1-2");
        are("(|a)+", "a", 0, "0-1 0-1");
        are("(a?)*?b", "aab", 0, "0-3 1-2");
        are("((a)|b)*", "abab", 0, "0-4 3-4 2-3");
        are("(?:(a)(b)?)*", "aba", 0, "0-3 2-3 1-2");
    }

    private static void groupsThatAreGoneBackOver() {
        are("(?:(a)b|ac)", "ac", 0, "0-2 .");
        are("(a)*ab", "aab", 0, "0-3 0-1");
        are("(?:(a)|a)*?b", "aab", 0, "0-3 1-2");
        are("(?:(a)(?:c|d)|ab)", "ab", 0, "0-2 .");
        are("(?:(a)|(ab))(?:c)", "abc", 0, "0-3 . 0-2");
        are("(a+)(b+)|(a+)(c)", "aac", 0, "0-3 . . 0-2 2-3");
        are("(x)?(x)?y", "xy", 2, "0-2 0-1 .");
        are("(a)b|(b)", "xb", 2, "1-2 . 1-2");
    }

    private static void groupsInLookaheads() {
        are("(?=(a+))a", "aab", 1, "0-1 0-2");
        are("(?=(a)|(b))b", "b", 0, "0-1 . 0-1");
        are("(?!(a)b)a", "ac", 1, "0-1 .");
        are("(?!(b))(a)", "a", 0, "0-1 . 0-1");
        are("(a)(?!\\w(b))", "aab", 2, "1-2 1-2 .");
        are("(?:(?=(a))a)*", "aab", 1, "0-2 1-2");
        are("(?:(?=(.))(?:a|b)c|bd)", "bd", 0, "0-2 .");
        are("((?=(a))a|b)*", "ab", 0, "0-2 1-2 0-1");
        are("(?=(a*?)b)a*b", "aab", 0, "0-3 0-2");
    }

    private static void groupsInKeptRounds() {
        are("(a)*+b", "aab", 0, "0-3 1-2");
        are("(?:(a)|(b))*+c", "abc", 0, "0-3 0-1 1-2");
        are("(?:(a)*+b|aac)", "aac", 0, "0-3 .");
        are("((a)|b)++", "ab", 0, "0-2 1-2 0-1");
        are("(a*)*+", "aa", 0, "0-2 0-2");
        are("(a*)++", "aa", 0, "0-2 0-2");
    }

    private static void theLatestMatchThatWasOne() {
        PatternTrier x = Check.trier("(a)(b)", "xab");
        Check.pattern(x, 1, "(b)");
        Check.due("no match", () -> x.match(0, 0, 0, 0), -1);
        Check.same("none so far", Check.groups(x, 2), ". . .");
        Check.due("a match", () -> x.match(0, 0, 2, 0), 3);
        Check.same("its groups", Check.groups(x, 3), "1-3 1-2 2-3 .");
        Check.due("no match again", () -> x.match(0, 0, 1, 0), -1);
        Check.same("still its groups", Check.groups(x, 3), "1-3 1-2 2-3 .");
        Check.due("a wrong one", () -> x.match(0, 0, 1, 9), Check.BOUNDS);
        Check.due("find", () -> x.find(1, 0), 1);
        Check.same("find leaves them", Check.groups(x, 3), "1-3 1-2 2-3 .");
        Check.due("replace", () -> Check.replace(x, 1, 0, "yyyyy"), 7);
        Check.same("replace leaves them", Check.groups(x, 3), "1-3 1-2 2-3 .");
        Check.text(x, 0, "b");
        Check.pattern(x, 0, "c");
        Check.same("text and pattern leave them", Check.groups(x, 3), "1-3 1-2 2-3 .");
        Check.due("a match of another", () -> x.match(1, 0, 0, 0), 1);
        Check.same("its groups alone", Check.groups(x, 9), "0-1 0-1 . . . . . . . .");
    }

    private static void wrongNumbers() {
        PatternTrier x = Check.trier("(a)", "a");
        x.match(0, 0, 0, 0);
        for (int n : new int[] {-1, Integer.MIN_VALUE, Integer.MAX_VALUE}) {
            Check.due("group i " + n, () -> x.group(n, 0), Check.ARGUMENT);
            Check.due("group part " + n, () -> x.group(0, n), Check.ARGUMENT);
        }
        Check.due("group i 10", () -> x.group(10, 0), Check.ARGUMENT);
        Check.due("group part 2", () -> x.group(0, 2), Check.ARGUMENT);
        Check.due("group 9", () -> x.group(9, 1), -1);
        Check.due("i before part", () -> x.group(10, 2), Check.ARGUMENT);
        Check.pattern(x, 1, "((((((((()))))))))a");
        x.match(1, 0, 0, 0);
        for (int k = 1; k <= 9; k++) {
            int i = k;
            Check.due("begin of GROUP " + i, () -> x.group(i, 0), 0);
            Check.due("end of GROUP " + i, () -> x.group(i, 1), 0);
        }
    }
}
