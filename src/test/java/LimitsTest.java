/** Patterns and texts that would take a plain matcher for ever, or fill its rows. */
public final class LimitsTest {
    private static final long MILLIS = 20000;

    public static void main(String[] args) {
        long begin = System.currentTimeMillis();
        String as = Check.times("a", 1000);
        is("(a*)*b", as, 2, -1);
        is("(?:a|aa)+b", as, 2, -1);
        is("(a|a)*b", as, 2, -1);
        is("(?:(?:(?:(?:(?:(?:(?:(?:(?:(?:a*)*)*)*)*)*)*)*)*)*)*b", as, 2, -1);
        is("(?:(?:(?:(?:(?:(?:(?:(?:(?:(?:a*)*)*)*)*)*)*)*)*)*)*", as, 0, 1000);
        is("(?:(?:(?:(?:(?:(?:a+)+)+)+)+)+)+b", as, 2, -1);
        is("(?:a?){20}(?:a?){20}(?:a?){20}a{20}b", as, 2, -1);
        is("(?:a{0,20}){0,9}b", as, 2, -1);
        is("(?:.*.*.*.*.*.*)*=", as, 2, -1);
        is("(?=.*.*.*b).", as, 2, -1);
        is("(?:(?=.*a)(?!.*b).)*", as, 0, 1000);
        is("(?:a*+a?)*b", as, 2, -1);
        is("(?:a|b|c|d|e|f|a)*$", as, 0, 1000);
        rowsThatFill();
        manyMarks();
        deepBrackets();
        manyFinds();
        long took = System.currentTimeMillis() - begin;
        Check.same("took " + took + " ms, soon enough", "" + (took < MILLIS), "true");
        Check.finish();
    }

    private static void is(String pattern, String text, int how, int want) {
        PatternTrier x = new PatternTrier();
        Check.text(x, 0, text);
        Check.due("pattern " + pattern, () -> Check.pattern(x, 0, pattern) > 0 ? 1 : 0, 1);
        Check.due("match of " + pattern, () -> x.match(0, 0, how, 0), want);
    }

    /** Each byte is taken only after all other ways of a round were left, so that all are kept. */
    private static void rowsThatFill() {
        String text = Check.times("z", 1000);
        is("(?:(?:a?){20}(?:b?){20}(?:c?){20}(?:d?){20}(?:e?){20}z)*", text, 0, 1000);
        is("(?:(?:a?){20}(?:b?){20}(?:c?){20}(?:d?){20}(?:e?){20}z)*y", text, 2, -1);
        is("(?:" + Check.times("a|", 90) + "z)*", text, 0, 1000);
        is("(?:(?:" + Check.times("a|", 90) + "z){1})*", text, 0, 1000);
        is("(?:(?:" + Check.times("(?=)", 19) + "){19}z)*", text, 0, 1000);
        is("(?:(?:" + Check.times("(?=)", 19) + "){19}z)*zz", text, 0, 1000);
        String ahead = "(?=(?:(?:a?){20}(?:b?){20}(?:c?){20}(?:d?){20}z)*)z";
        is("(?:" + ahead + ")*z", text, 0, 1000);
        is(Check.times("(?:", 7) + ahead + Check.times(")*", 7) + "y", text, 2, -1);
    }

    private static void manyMarks() {
        String pattern = "(?:" + Check.times("(){19}", 9) + "z)*";
        PatternTrier x = Check.trier(pattern, Check.times("z", 1000));
        Check.due("match of " + pattern, () -> x.match(0, 0, 0, 0), 1000);
        for (int i = 1; i <= 9; i++) {
            int g = i;
            Check.due("group " + g, () -> x.group(g, 0), 999);
        }
        PatternTrier y = Check.trier(pattern + "y", Check.times("z", 1000));
        Check.due("no match", () -> y.match(0, 0, 2, 0), -1);
        Check.due("group 1", () -> y.group(1, 0), -1);
    }

    private static void deepBrackets() {
        String pattern = Check.times("(", 9) + "(?:a" + Check.times(")*", 10);
        PatternTrier x = Check.trier(pattern, Check.times("a", 1000));
        Check.due("match", () -> x.match(0, 0, 0, 0), 1000);
        Check.same("groups", Check.groups(x, 9),
                "0-1000 0-1000 0-1000 0-1000 0-1000 0-1000 0-1000 0-1000 0-1000 0-1000");
        String lazy = Check.times("(", 9) + "(?:a" + Check.times(")*?", 10);
        PatternTrier y = Check.trier(lazy, Check.times("a", 1000));
        Check.due("match, less first", () -> y.match(0, 0, 0, 0), 1000);
    }

    private static void manyFinds() {
        PatternTrier x = Check.trier("(?:a|b)*c|a", Check.times("ab", 150));
        for (int i = 0; i < 400; i++) {
            Check.due("find " + i, () -> x.find(0, 0), 150);
        }
        PatternTrier y = Check.trier("(?=.*(b))|a", Check.times("a", 300));
        for (int i = 0; i < 400; i++) {
            Check.due("find ahead " + i, () -> y.find(0, 0), 300);
        }
    }
}
