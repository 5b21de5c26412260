import java.util.regex.Matcher;
import java.util.regex.Pattern;

/** Promises 4, 6, 7, 8 and 10 over random patterns and texts, against two other matchers. */
public final class RandomPatternsTest {
    private static final int ROUNDS = 60000;
    private static final int BUDGET = 20000;
    private static final int NESTED = 20000;
    private static final int NESTED_BUDGET = 100000;
    private static int plain = 0;
    private static int java = 0;

    public static void main(String[] args) {
        PatternMaker maker = new PatternMaker(20261115L);
        for (int i = 0; i < ROUNDS; i += 2) {
            // Two, so that rows are used again; what an object answers beyond its 512th call is free.
            PatternTrier x = new PatternTrier();
            tryOne(x, maker, maker.make(), BUDGET);
            tryOne(x, maker, maker.make(), BUDGET);
        }
        for (int i = 0; i < NESTED; i++) {
            tryOne(new PatternTrier(), maker, maker.makeNested(), NESTED_BUDGET);
        }
        Check.same("enough were compared", "" + (plain > (ROUNDS + NESTED) / 2 && java > ROUNDS / 10), "true");
        Check.finish();
    }

    private static void tryOne(PatternTrier x, PatternMaker maker, PlainMatcher.Part root, int budget) {
        int groups = maker.groups();
        boolean onlyHere = maker.onlyHere();
        String pattern = root.told;
        if (pattern.length() > 200) {
            return;
        }
        if (root.weight > 400) {
            Check.due("weight of " + pattern, () -> Check.pattern(x, 0, pattern), Check.BOUNDS);
            return;
        }
        Check.due("weight of " + pattern, () -> Check.pattern(x, 0, pattern), root.weight);
        Check.due("groups of " + pattern, () -> x.count(30), groups);
        String text = maker.text(12);
        Check.text(x, 0, text);
        try {
            compareWithPlain(x, root, text, groups, maker, budget);
            plain++;
        } catch (PlainMatcher.TooLong e) {
            return;
        }
        if (!onlyHere) {
            compareWithJava(x, root, text);
            java++;
        }
    }

    private static void compareWithPlain(PatternTrier x, PlainMatcher.Part root, String text, int groups,
            PatternMaker maker, int budget) {
        String name = root.told + " on " + text;
        PlainMatcher matcher = new PlainMatcher(text);
        int whole = matcher.end(root, 0, true, budget);
        Check.due("whole " + name, () -> x.match(0, 0, 0, 0), whole);
        sameGroups(x, name, matcher, 0, whole, groups);
        int place = maker.next(text.length() + 1);
        int end = matcher.end(root, place, false, budget);
        Check.due("at " + place + " " + name, () -> x.match(0, 0, 1, place), end);
        sameGroups(x, name, matcher, place, end, groups);
        int first = place;
        while (end < 0 && first < text.length()) {
            first++;
            end = matcher.end(root, first, false, budget);
        }
        int firstEnd = end;
        Check.due("from " + place + " " + name, () -> x.match(0, 0, 2, place), firstEnd);
        sameGroups(x, name, matcher, first, end, groups);
        replace(x, root, text, matcher, budget);
    }

    private static void sameGroups(PatternTrier x, String name, PlainMatcher matcher, int begin, int end, int groups) {
        if (end < 0) {
            return;
        }
        Check.same("groups " + name, Check.groups(x, groups), matcher.told(begin, end, groups));
    }

    private static void replace(PatternTrier x, PlainMatcher.Part root, String text, PlainMatcher matcher,
            int budget) {
        StringBuilder found = new StringBuilder();
        StringBuilder want = new StringBuilder();
        int copied = 0;
        for (int place = 0; place <= text.length();) {
            int end = matcher.end(root, place, false, budget);
            if (end < 0) {
                place++;
                continue;
            }
            found.append(found.length() == 0 ? "" : " ").append(place).append('-').append(end);
            want.append(text, copied, place).append('<');
            if (matcher.marks[2] >= 0) {
                want.append(text, matcher.marks[2], matcher.marks[3]);
            }
            want.append('|').append(text, place, end).append('>');
            copied = end;
            place = end > place ? end : end + 1;
        }
        want.append(text.substring(copied));
        String name = root.told + " in " + text;
        x.find(0, 0);
        Check.same("find " + name, Check.found(x), found.toString());
        Check.due("replace " + name, () -> Check.replace(x, 0, 0, "<$1|$0>"), want.length());
        Check.same("replaced " + name, Check.bytes(x, 0), want.toString());
        Check.same("found by replace " + name, Check.found(x), found.toString());
    }

    private static void compareWithJava(PatternTrier x, PlainMatcher.Part root, String text) {
        Check.text(x, 0, text);
        Matcher matcher = Pattern.compile(root.told2, Pattern.UNIX_LINES).matcher(text);
        String name = root.told + " on " + text;
        Check.due("java, whole " + name, () -> x.match(0, 0, 0, 0), matcher.matches() ? text.length() : -1);
        matcher.reset();
        StringBuilder found = new StringBuilder();
        while (matcher.find()) {
            found.append(found.length() == 0 ? "" : " ").append(matcher.start()).append('-').append(matcher.end());
        }
        x.find(0, 0);
        Check.same("java, find " + name, Check.found(x), found.toString());
    }
}
