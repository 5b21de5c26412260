/** Promise 10: replace puts the tape, with its GROUPS, in the place of ALL MATCHES. */
public final class Promise10ReplaceTest {
    public static void main(String[] args) {
        ordinary();
        groups();
        brokenModels();
        eachByteBehindTheSign();
        tooLong();
        order();
        whatItLeaves();
        Check.finish();
    }

    private static void is(String pattern, String text, String model, String want) {
        PatternTrier x = Check.trier(pattern, text);
        Check.due("replace " + pattern + " in " + text + " by " + model,
                () -> Check.replace(x, 0, 0, model), want.length());
        Check.same("the text then", Check.bytes(x, 0), want);
        Check.due("its size", () -> x.count(20), want.length());
        Check.due("the tape", () -> x.count(0), 0);
        Check.due("the place", () -> x.count(1), -1);
    }

    private static void ordinary() {
        is("a", "banana", "o", "bonono");
        is("a", "banana", "", "bnn");
        is("an", "banana", "<>", "b<><>a");
        is("x", "banana", "y", "banana");
        is("", "ab", "-", "-a-b-");
        is("", "", "-", "-");
        is("a*", "baac", "-", "-b--c-");
        is("$", "ab", "!", "ab!");
        is(".*", "ab", "x", "xx");
        is("\\b", "ab", "|", "|ab|");
        is("a", "a", "\u0000\u00ff\n", "\u0000\u00ff\n");
        is("(?:ab)+", "ababcab", "x", "xcx");
        is("", "", "", "");
    }

    private static void groups() {
        is("(a)(b)", "xab", "$2$1", "xba");
        is("(a)(b)", "ab", "$0$0", "abab");
        is("(a)|(b)", "ab", "[$1$2]", "[a][b]");
        is("(a)|(b)", "ab", "<$1|$2>", "<a|><|b>");
        is("a", "aa", "$$", "$$");
        is("a", "a", "$$0", "$0");
        is("a", "a", "$$$0$$", "$a$");
        is("(a)", "a", "$10", "a0");
        is("a", "a", "x$9y", "xy");
        is("(a)", "a", "$2", "");
        is("(a)*b", "aab", "$1", "a");
        is("(?=(b))a|c", "c", "$1-", "-");
        is("(.)(.)(.)(.)(.)(.)(.)(.)(.)", "abcdefghi", "$9$8$7$6$5$4$3$2$1", "ihgfedcba");
        is("a(?=(.))", "abac", "<$1>", "<b>b<c>c");
        // A group of one match is not one of the next.
        is("(a)|b", "ab", "<$1>", "<a><>");
    }

    /** "$ and a digit is that GROUP (nothing if none) and $$ $": no other byte behind $. */
    private static void eachByteBehindTheSign() {
        for (int b = 0; b < 256; b++) {
            String model = "x$" + (char) b + "y";
            if (b == '$') {
                is("(a)(b)?", "ca", model, "cx$y");
            } else if (b >= '0' && b <= '9') {
                is("(a)(b)?", "ca", model, b <= '1' ? "cxay" : "cxy");
            } else {
                broken("(a)(b)?", "ca", model, 2);
            }
        }
    }

    private static void broken(String pattern, String text, String model, int place) {
        PatternTrier x = Check.trier(pattern, text);
        x.find(0, 0);
        int before = x.count(2);
        Check.due("replace by " + model, () -> Check.replace(x, 0, 0, model), Check.BROKEN);
        Check.due("place of " + model, () -> x.count(1), place);
        Check.same("the text is as before", Check.bytes(x, 0), text);
        Check.due("found as before", () -> x.count(2), before);
        Check.due("the tape", () -> x.count(0), 0);
    }

    private static void brokenModels() {
        broken("a", "a", "$", 1);
        broken("a", "a", "ab$", 3);
        broken("a", "a", "$a", 1);
        broken("a", "a", "$1$x$y", 3);
        broken("a", "a", "$$$", 3);
        broken("a", "a", "$$$$$ ", 5);
        broken("a", "a", "$\n", 1);
        broken("a", "a", "$/", 1);
        broken("a", "a", "$:", 1);
        broken("a", "b", "x$", 2);
        broken("a", "", "$-", 1);
        broken("a", "a", Check.times("x", 1199) + "$", 1200);
    }

    private static void tooLong() {
        is("a", "a", Check.times("x", 1000), Check.times("x", 1000));
        PatternTrier x = Check.trier("a", Check.times("ab", 100));
        Check.pattern(x, 1, "b");
        x.find(1, 0);
        Check.due("1000 bytes", () -> Check.replace(x, 0, 0, Check.times("x", 9)), 1000);
        Check.due("100 found", () -> x.count(2), 100);
        Check.due("first place", () -> x.found(0, 0), 0);
        Check.text(x, 0, Check.times("ab", 100) + "b");
        x.find(1, 0);
        Check.due("1001 bytes", () -> Check.replace(x, 0, 0, Check.times("x", 9)), Check.STATE);
        Check.due("found as before", () -> x.count(2), 101);
        Check.due("places as before", () -> x.found(0, 0), 1);
        Check.same("text as before", Check.bytes(x, 0), Check.times("ab", 100) + "b");
        Check.due("the tape", () -> x.count(0), 0);
        Check.due("the place", () -> x.count(1), -1);
        Check.due("by groups", () -> Check.replace(x, 0, 0, Check.times("$0", 600)), Check.STATE);
        Check.due("a long tape for nothing", () -> Check.replace(x, 0, 3, Check.times("x", 1200)), 0);
        comesTo("a", Check.times("x", 1001), Check.STATE);
        comesTo("a", Check.times("x", 1200), Check.STATE);
        comesTo("aa", Check.times("x", 500), "1000");
        comesTo("aa", Check.times("x", 501), Check.STATE);
        comesTo("aa", Check.times("$$", 500), "1000");
        comesTo("aa", Check.times("$$", 501), Check.STATE);
        comesTo("aa", Check.times("$0", 500), "1000");
        comesTo("aa", Check.times("$0", 501), Check.STATE);
        comesTo("ab", Check.times("x", 999), "1000");
        comesTo("ab", Check.times("x", 1000), Check.STATE);
        PatternTrier y = Check.trier(".*", Check.times("a", 300));
        Check.due("900 bytes", () -> Check.replace(y, 0, 0, "$0$0$0"), 900);
        Check.text(y, 0, Check.times("a", 300));
        Check.due("1200 bytes", () -> Check.replace(y, 0, 0, "$0$0$0$0"), Check.STATE);
        PatternTrier z = Check.trier("", Check.times("a", 300));
        Check.due("902 bytes", () -> Check.replace(z, 0, 0, "xy"), 902);
        Check.due("found of them", () -> z.count(2), 301);
    }

    private static void comesTo(String text, String model, String want) {
        PatternTrier x = Check.trier("a", text);
        Check.due("replace in " + text + " by " + model, () -> Check.replace(x, 0, 0, model), want);
        boolean tooLong = want.equals(Check.STATE);
        Check.due("size after " + model, () -> x.count(20), tooLong ? text.length() : 1000);
        Check.due("found after " + model, () -> x.count(2), tooLong ? 0 : text.replace("b", "").length());
    }

    private static void order() {
        PatternTrier x = Check.trier("a", Check.times("a", 301));
        Check.text(x, 1, "a");
        Check.due("a long text", () -> Check.replace(x, 0, 0, "x"), Check.BOUNDS);
        Check.due("the tape", () -> x.count(0), 0);
        Check.due("a long text before $", () -> Check.replace(x, 0, 0, "$"), Check.BOUNDS);
        Check.due("the place", () -> x.count(1), -1);
        Check.due("no pattern before the size", () -> Check.replace(x, 1, 0, "$"), Check.NO_SUCH);
        Check.due("the tape", () -> x.count(0), 0);
        Check.due("$ before too long", () -> Check.replace(x, 0, 1, Check.times("x", 1100) + "$"), Check.BROKEN);
        Check.due("the place", () -> x.count(1), 1101);
        for (int n : new int[] {-1, 8, Integer.MIN_VALUE, Integer.MAX_VALUE}) {
            Check.due("p " + n, () -> Check.replace(x, n, 0, "$"), Check.ARGUMENT);
            Check.due("t " + n, () -> Check.replace(x, 1, n, "$"), Check.ARGUMENT);
            Check.due("the tape", () -> x.count(0), 0);
        }
        Check.due("t 4", () -> Check.replace(x, 0, 4, "x"), Check.ARGUMENT);
        Check.due("300 bytes", () -> Check.text(x, 2, Check.times("a", 300)), 300);
        Check.due("are few enough", () -> Check.replace(x, 0, 2, "$0$0$0"), 900);
    }

    private static void whatItLeaves() {
        PatternTrier x = Check.trier("(a)", "aba");
        Check.text(x, 1, "aaa");
        x.match(0, 0, 1, 2);
        Check.due("replace", () -> Check.replace(x, 0, 0, "xx"), 5);
        Check.same("another text stays", Check.bytes(x, 1), "aaa");
        Check.same("the groups stay", Check.groups(x, 1), "2-3 2-3");
        Check.due("replace in what was replaced", () -> Check.replace(x, 0, 0, "y"), 5);
        Check.due("nothing found", () -> x.count(2), 0);
        Check.same("the text stays", Check.bytes(x, 0), "xxbxx");
    }
}
