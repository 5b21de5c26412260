/** Promise 4: pattern takes the tape as a PATTERN, answers its WEIGHT, tells where it is broken. */
public final class Promise04PatternTest {
    public static void main(String[] args) {
        weights();
        weightLimit();
        brokenAtoms();
        brokenSets();
        brokenQuantifiers();
        brokenBrackets();
        brokenWithinOneAnother();
        whatMayStand();
        lengths();
        bytesThatCannotStand();
        numbersOutOfRange();
        brokenOnesChangeNothing();
        eachPatternIsItsOwn();
        manyOneAfterAnother();
        Check.finish();
    }

    private static void weighs(String pattern, int want) {
        PatternTrier x = new PatternTrier();
        Check.due("weight of " + pattern, () -> Check.pattern(x, 3, pattern), want);
        Check.due("count(13) of " + pattern, () -> x.count(13), want);
        Check.due("count(1) of " + pattern, () -> x.count(1), -1);
        Check.due("the tape after " + pattern, () -> x.count(0), 0);
    }

    private static void broken(String pattern, int place) {
        PatternTrier x = new PatternTrier();
        Check.due("broken " + pattern, () -> Check.pattern(x, 3, pattern), Check.BROKEN);
        Check.due("place of " + pattern, () -> x.count(1), place);
        Check.due("count(13) of " + pattern, () -> x.count(13), -1);
        Check.due("the tape after " + pattern, () -> x.count(0), 0);
    }

    private static void tooHeavy(String pattern) {
        PatternTrier x = new PatternTrier();
        Check.due("too heavy " + pattern, () -> Check.pattern(x, 3, pattern), Check.BOUNDS);
        Check.due("place of " + pattern, () -> x.count(1), -1);
        Check.due("count(13) of " + pattern, () -> x.count(13), -1);
        Check.due("the tape after " + pattern, () -> x.count(0), 0);
    }

    private static void weights() {
        weighs("", 0);
        weighs("a", 1);
        weighs("abc", 3);
        weighs(".", 1);
        weighs("[a-z0-9_]", 1);
        weighs("[^a]", 1);
        weighs("\\d\\w\\s\\D\\W\\S\\b\\B\\.\\\\", 10);
        weighs("^$", 2);
        weighs("|", 1);
        weighs("||", 2);
        weighs("a|bc|", 5);
        weighs("()", 2);
        weighs("(?:)", 1);
        weighs("(?=)", 1);
        weighs("(?!)", 1);
        weighs("(ab|c)", 6);
        weighs("(?:ab|c)", 5);
        weighs("(?=ab)", 3);
        weighs("(?!ab)", 3);
        weighs("a*", 2);
        weighs("a?", 2);
        weighs("a+", 3);
        weighs("a{1,}", 3);
        weighs("a*?", 2);
        weighs("a??", 2);
        weighs("a+?", 3);
        weighs("a*+", 3);
        weighs("a?+", 3);
        weighs("a++", 4);
        weighs("a{0}", 0);
        weighs("a{0}+", 1);
        weighs("a{5}", 5);
        weighs("a{5}?", 5);
        weighs("a{5}+", 6);
        weighs("a{0,}", 2);
        weighs("a{5,}", 7);
        weighs("a{5,7}", 9);
        weighs("a{0,1}", 2);
        weighs("a{3,3}", 3);
        weighs("a{5,7}+", 10);
        weighs("(ab){2,4}", 8 + 10);
        weighs("(ab){2,}", 8 + 5);
        weighs("(?:a{2}b*)+", 5 + 6);
        weighs("(?:(?:a{20}){20}){0}b", 1);
        weighs("((a)|(b))*c", 2 + 3 + 1 + 3 + 1 + 1);
    }

    private static void weightLimit() {
        weighs("(?:a{19}){20}", 400);
        weighs("(?:a{19}){19}a{20}", 400);
        tooHeavy("(?:a{19}){20}a");
        tooHeavy("(?:a{20}){20}");
        tooHeavy("(?:(?:(?:(?:(?:(?:a{20}){20}){20}){20}){20}){20}){20}");
        tooHeavy("(?:(?:(?:(?:(?:(?:a{20,}){20,}){20,}){20,}){20,}){20,}){20,}");
        weighs("(?:" + Check.times("a", 99) + "){4}", 400);
        weighs("(?:" + Check.times("a", 99) + "){0,3}" + Check.times("a", 90), 393);
        tooHeavy("(?:" + Check.times("a", 99) + "){4}|");
        // A broken byte comes before the weight.
        broken("(?:a{20}){20}(", 14);
        broken("(?:a{20}){20}*", 13);
    }

    private static void brokenAtoms() {
        broken("*", 0);
        broken("+", 0);
        broken("?", 0);
        broken("{", 0);
        broken("{1}", 0);
        broken("a|*", 2);
        broken("(*a)", 1);
        broken("(?:+)", 3);
        broken(")", 0);
        broken("a)", 1);
        broken("(a))", 3);
        broken("a|)", 2);
        broken("\\", 1);
        broken("ab\\", 3);
        broken("\\a", 1);
        broken("\\z", 1);
        broken("\\A", 1);
        broken("\\0", 1);
        broken("\\1", 1);
        broken("\\9", 1);
        broken("a\\n", 2);
        broken("(\\", 2);
    }

    private static void brokenSets() {
        broken("[", 1);
        broken("[a", 2);
        broken("[]", 1);
        broken("[]a]", 1);
        broken("[^", 2);
        broken("[^]", 2);
        broken("[^]a]", 2);
        broken("[a-", 3);
        broken("[a-b", 4);
        broken("[b-a]", 1);
        broken("x[0-9b-a]", 5);
        broken("[^b-a]", 2);
        broken("[a--]", 1);
        broken("[\\", 2);
        broken("[\\]", 3);
        broken("[\\b]", 2);
        broken("[a\\B]", 3);
        broken("[\\1]", 2);
        broken("[\\n]", 2);
        broken("[a-\\n]", 4);
    }

    private static void brokenQuantifiers() {
        broken("a**", 2);
        broken("a*?+", 3);
        broken("a*??", 3);
        broken("a*+*", 3);
        broken("a+++", 3);
        broken("a{1}{2}", 4);
        broken("a{", 2);
        broken("a{}", 2);
        broken("a{,1}", 2);
        broken("a{x}", 2);
        broken("a{-1}", 2);
        broken("a{1", 3);
        broken("a{1x", 3);
        broken("a{1,", 4);
        broken("a{1,x", 4);
        broken("a{1,2", 5);
        broken("a{1,2x", 5);
        broken("a{1,2,3}", 5);
        broken("a{21}", 2);
        broken("a{100}", 2);
        broken("a{99999999999999999999}", 2);
        broken("a{21", 2);
        broken("a{0,21}", 4);
        broken("a{20,21}", 5);
        broken("a{3,2}", 4);
        broken("a{20,19}", 5);
        broken("a{2,1", 4);
        broken("a{00}", 3);
        broken("a{01}", 3);
        broken("a{1,02}", 4);
        broken("a{0,01}", 5);
        broken("^*", 1);
        broken("$+", 1);
        broken("a^?", 2);
        broken("\\b*", 2);
        broken("\\B{1}", 2);
        broken("(?=a)*", 5);
        broken("(?!a){2}", 5);
        broken("(?=a)?", 5);
        broken("(?:^)$+", 6);
    }

    private static void brokenBrackets() {
        broken("(", 1);
        broken("(a", 2);
        broken("(a|", 3);
        broken("(?", 2);
        broken("(?)", 2);
        broken("(?a)", 2);
        broken("(?<=a)", 2);
        broken("(?>a)", 2);
        broken("(?*", 2);
        broken("(?:", 3);
        broken("(?:a", 4);
        broken("(?=a", 4);
        broken("(?!", 3);
        broken(Check.times("(?:", 11), 30);
        broken(Check.times("(?:", 10) + "(a)", 30);
        broken(Check.times("(?:", 10) + "(?x", 30);
        broken(Check.times("(?:", 10) + Check.times(")", 11), 40);
        broken(Check.times("(", 10), 9);
        broken(Check.times("()", 10), 18);
        broken(Check.times("(a)", 9) + "b(", 28);
        broken(Check.times("(a)", 9) + "(?", 29);
        broken(Check.times("(a)", 9) + "(?:(b))", 30);
    }

    private static void brokenWithinOneAnother() {
        broken("(?=(?=a))", 3);
        broken("(?=a(?!b))", 4);
        broken("(?!(?:(?=a)))", 6);
        broken("(?=a)(?=(?=b))", 8);
        broken("(?!a)(?!b)(?=c++)", 15);
        broken("(?=a++)", 5);
        broken("(?!(a*+))", 6);
        broken("(?=a)(?:b(?!c))++", 16);
        broken("(?:a++)*+", 8);
        broken("(?:a++b){2}+", 11);
        broken("(?:(a*+))?+", 10);
        broken("(?:(?=a)b)*+", 11);
        broken("(?=(?:a){2}+)", 11);
        broken("(?:(?:(?=a))b){0}+", 17);
    }

    private static void whatMayStand() {
        weighs("(?=a)(?=b)(?!c)", 6);
        weighs("a++b++", 8);
        weighs("(?=a)b++", 6);
        weighs("(?:(?=a)b)*", 5);
        weighs("(?:(?=a)b)*?", 5);
        weighs("(?:a++b)+", 13);
        weighs("(?:a+?)++", 10);
        weighs("(?=a+)", 4);
        weighs("(?=a*?)", 3);
        weighs("]", 1);
        weighs("}", 1);
        weighs("a}]-,:=!<>#&~\"'/;@_`% ", 22);
        weighs("[[]", 1);
        weighs("[(|)*+?{}.$]", 1);
        weighs("[^^]", 1);
        weighs("[a^]", 1);
        weighs("[-a]", 1);
        weighs("[a-]", 1);
        weighs("[^-]", 1);
        weighs("[-]", 1);
        weighs("[---]", 1);
        weighs("[a-a]", 1);
        weighs("[ -~]", 1);
        weighs("[a-\\d]", 1);
        weighs("[\\d-z]", 1);
        weighs("[a-z-9]", 1);
        weighs("[\\]\\\\\\-\\^\\d\\w\\s\\D\\W\\S]", 1);
        weighs("[a]]", 2);
        weighs("\\_\\ \\~\\(\\)", 5);
        weighs("(?:^){2}(?:\\b)*(?:(?=a))+", 4 + 3 + 7);
        weighs("()*", 3);
        weighs("(|)", 3);
        weighs("(?:)*", 2);
        weighs("a{20,20}", 20);
        weighs("a{0,0}", 0);
        weighs("a{10,20}", 30);
        weighs(Check.times("(?:", 10) + Check.times(")", 10), 10);
        weighs(Check.times("(", 9) + "(?:a" + Check.times(")", 10), 20);
        weighs(Check.times("()", 9) + Check.times("(?:)", 9), 27);
        weighs(Check.times("(?:a)", 30), 60);
    }

    private static void lengths() {
        weighs(Check.times("a", 200), 200);
        broken(Check.times("a", 201), 200);
        broken(Check.times("a", 1200), 200);
        broken(Check.times("a", 150) + "*+*" + Check.times("a", 150), 152);
        broken("(" + Check.times("a", 200), 200);
        broken("(" + Check.times("a", 199), 200);
        broken(Check.times("a", 199) + "\\", 200);
        broken(Check.times("a", 199) + "\\.", 200);
        broken(Check.times("a", 199) + "[", 200);
        broken(Check.times("a", 200) + "*", 200);
        broken(Check.times("a", 198) + "{2}", 200);
        broken("[" + Check.times("a", 199) + "]", 200);
        weighs("[" + Check.times("a", 198) + "]", 1);
    }

    private static void bytesThatCannotStand() {
        broken("a\n", 1);
        broken("\u001f", 0);
        broken("ab\u007f", 2);
        broken("a\u0000", 1);
        broken("\u00ff", 0);
        broken("[a\u0080]", 2);
        broken("[a-\u0080]", 3);
        broken("\\\u0007", 1);
        broken("[\\\u0007]", 2);
        broken("a{\t1}", 2);
        broken("(\r", 1);
        broken("(?\r", 2);
        weighs(" ~", 2);
    }

    private static void numbersOutOfRange() {
        for (int p : new int[] {-1, 8, Integer.MIN_VALUE, Integer.MAX_VALUE}) {
            PatternTrier x = new PatternTrier();
            Check.due("pattern " + p, () -> Check.pattern(x, p, "a"), Check.ARGUMENT);
            Check.due("the tape after it", () -> x.count(0), 0);
            Check.due("broken pattern " + p, () -> Check.pattern(x, p, "*"), Check.ARGUMENT);
            Check.due("the place after it", () -> x.count(1), -1);
        }
    }

    private static void brokenOnesChangeNothing() {
        PatternTrier x = Check.trier("(a)b", "ab");
        Check.due("a broken one", () -> Check.pattern(x, 0, "(a))((b)"), Check.BROKEN);
        Check.due("weight before", () -> x.count(10), 4);
        Check.due("groups before", () -> x.count(30), 1);
        Check.due("match as before", () -> x.match(0, 0, 0, 0), 2);
        Check.due("a heavy one", () -> Check.pattern(x, 0, "((a{20}){20})"), Check.BOUNDS);
        Check.due("place after the heavy one", () -> x.count(1), -1);
        Check.due("weight as before", () -> x.count(10), 4);
        Check.due("match again", () -> x.match(0, 0, 0, 0), 2);
        Check.due("a good one", () -> Check.pattern(x, 0, "b"), 1);
        Check.due("its weight", () -> x.count(10), 1);
        Check.due("its groups", () -> x.count(30), 0);
        Check.due("match of it", () -> x.match(0, 0, 0, 0), -1);
    }

    private static void eachPatternIsItsOwn() {
        PatternTrier x = new PatternTrier();
        for (int p = 0; p < 8; p++) {
            Check.pattern(x, p, Check.times("(" + (char) ('a' + p) + ")", p + 1));
        }
        Check.text(x, 0, "aabbccddeeffgghh");
        for (int i = 0; i < 8; i++) {
            int p = i;
            Check.due("weight of " + p, () -> x.count(10 + p), 3 * (p + 1));
            Check.due("groups of " + p, () -> x.count(30 + p), p + 1);
            Check.due("match of " + p, () -> x.match(p, 0, 2, 0), p == 0 ? 1 : p == 1 ? 4 : -1);
        }
    }

    /** What patterns before it had is not in the way of the next one. */
    private static void manyOneAfterAnother() {
        PatternTrier x = new PatternTrier();
        Check.text(x, 0, Check.times("a", 59) + "b");
        for (int i = 0; i < 35; i++) {
            String last = i % 2 == 0 ? "[b]" : "[^b]";
            Check.due("pattern " + i, () -> Check.pattern(x, 0, Check.times(".", 59) + last), 60);
            Check.due("match " + i, () -> x.match(0, 0, 0, 0), last.equals("[b]") ? 60 : -1);
            Check.answer(() -> Check.pattern(x, 1, Check.times("[ab]", 9) + "("));
        }
    }
}
