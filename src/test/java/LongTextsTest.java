/**
 * Promises 6 and 7 over texts of up to 1000 bytes: rounds that are passed one by one and gone back
 * into, with groups that a lookahead or kept rounds set in each of them.
 */
public final class LongTextsTest {
    private static final int ROUNDS = 3000;
    private static final int BUDGET = 300000;
    private static final long STACK = 1L << 27;
    private static final String EIGHT = "((((((((a))))))))";
    private static int compared = 0;

    public static void main(String[] args) throws InterruptedException {
        groupsAhead();
        groupsKept();
        groupsOfSomeRounds();
        // The plain matcher calls itself for each byte, so that it needs a deep stack.
        Thread thread = new Thread(null, LongTextsTest::compareWithPlain, "plain", STACK);
        thread.start();
        thread.join();
        Check.same(compared + " compared, enough", "" + (compared > ROUNDS / 2), "true");
        Check.finish();
    }

    /** A lookahead whose groups pass over all that is left, in each of 1000 rounds. */
    private static void groupsAhead() {
        String as = Check.times("a", 1000);
        for (int how = 0; how < 3; how++) {
            is("(?:(?=" + EIGHT + "*)a)*a", as, how, "0-1000" + Check.times(" 999-1000", 8));
            is("(?:(?=" + EIGHT + "*)a)*a{20}", as, how, "0-1000" + Check.times(" 999-1000", 8));
            is("(?:(?=" + EIGHT + ")a)*a{20}", as, how, "0-1000" + Check.times(" 979-980", 8));
            is("(?:(?=" + EIGHT + "*)a)*?$", as, how, "0-1000" + Check.times(" 999-1000", 8));
            is("(?:(?!" + EIGHT + "*b)a)*a", as, how, "0-1000" + Check.times(" .", 8));
            is("(?:(?=" + EIGHT + "*b)a|a)*a", as, how, "0-1000" + Check.times(" .", 8));
            is("(?:(?=" + EIGHT + "*)a)*b", as, how, ".");
        }
        String ends = Check.times("a", 999) + "b";
        is("(?:(?=" + EIGHT + "*b)a)*aab", ends, 0, "0-1000" + Check.times(" 998-999", 8));
        is("(?:(?=(a)*(b))[ab])*.", ends, 0, "0-1000 998-999 999-1000");
        is("(?:(?=a*(a)|(b))[ab])*", ends, 0, "0-1000 998-999 999-1000");
        is("(?:(?=a*(a)|(b))[ab])*b", ends, 0, "0-1000 998-999 .");
    }

    private static void groupsKept() {
        String as = Check.times("a", 1000);
        for (int how = 0; how < 3; how++) {
            is("(?:" + EIGHT + "*+b|a)*a", as, how, "0-1000" + Check.times(" .", 8));
            is("(?:a" + EIGHT + "?+)*a", as.substring(1), how, "0-999" + Check.times(" 997-998", 8));
            is("(?:" + EIGHT + "*+|b)*", as, how, "0-1000" + Check.times(" 999-1000", 8));
            is("(?:" + EIGHT + "*+|b){1,}a", as, how, ".");
        }
        is("(?:(a){3}+(?=(a)*)|b)*a", as, 0, "0-1000 998-999 999-1000");
    }

    /** What a group had in a round before stays, and comes back where later rounds are left. */
    private static void groupsOfSomeRounds() {
        String text = Check.times("aab", 333) + "c";
        is("(?:(?=(a)|(b))[ab])*c", text, 0, "0-1000 997-998 998-999");
        is("(?:(?=(a)|(b))[ab])*[ab]c", text, 0, "0-1000 997-998 995-996");
        is("(?:(?=(a)|(b))[ab])*[ab]{3}c", text, 0, "0-1000 994-995 995-996");
        is("(?:(?=(?:(a)|(b))*)[ab])*[ab]{3}c", text, 0, "0-1000 997-998 998-999");
        is("(?:(?=(aa)?)[ab])*[ab]{2}c", text, 0, "0-1000 996-998");
        is("(?:(?=(aa)?)[ab])*[ab]{3}c", text, 0, "0-1000 993-995");
    }

    private static void is(String pattern, String text, int how, String groups) {
        PatternTrier x = Check.trier(pattern, text);
        boolean is = !groups.equals(".");
        Check.due("match " + how + " of " + pattern, () -> x.match(0, 0, how, 0), is ? text.length() : -1);
        int last = groups.split(" ").length - 1;
        Check.same("groups " + how + " of " + pattern, Check.groups(x, last), groups);
    }

    private static void compareWithPlain() {
        PatternMaker maker = new PatternMaker(20261116L);
        for (int i = 0; i < ROUNDS; i++) {
            // What an object answers beyond its 512th call is free.
            PatternTrier x = new PatternTrier();
            PlainMatcher.Part root = maker.makeRounds();
            String text = (maker.text(12) + "a").repeat(1000).substring(0, 900 + maker.next(101));
            if (root.told.length() <= 200 && root.weight <= 400) {
                Check.due("weight of " + root.told, () -> Check.pattern(x, 0, root.told), root.weight);
                Check.text(x, 0, text);
                compared += compare(x, root, text, i % 2, maker.groups()) ? 1 : 0;
            }
        }
    }

    private static boolean compare(PatternTrier x, PlainMatcher.Part root, String text, int how, int groups) {
        PlainMatcher matcher = new PlainMatcher(text);
        int end;
        try {
            end = matcher.end(root, 0, how == 0, BUDGET);
        } catch (PlainMatcher.TooLong e) {
            return false;
        }
        String name = how + " " + root.told + " on " + text;
        Check.due(name, () -> x.match(0, 0, how, 0), end);
        if (end >= 0) {
            Check.same("groups " + name, Check.groups(x, groups), matcher.told(0, end, groups));
        }
        return true;
    }
}
