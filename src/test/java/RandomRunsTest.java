import java.util.Map;
import java.util.TreeMap;

/**
 * All promises at once: runs of up to 512 random calls, refused ones among them, each answered by
 * the class as by the plain one.
 */
public final class RandomRunsTest {
    private static final int RUNS = 3000;
    private static final int CALLS = 512;
    private static final String[] BITS = {
        "a", "b", "1", "{", "}", "{2}", "{1,", "{3,1}", "(", "(?:", "(?=", "(?!", ")", ")", "[", "[^", "]", "-", "a-c",
        "\\", "\\d", "\\W", "\\b", "\\.", "*", "+", "?", "|", "^", "$", ".", ",", "\n", "(?:a{20}){20}"
    };
    private static final String[] SETS = {"[a]", ".", "\\d", "\\W", "[^ab]", "\\s", "[a-c-]", "\\S", "[^\\w]"};
    private static final String[] MODEL_BITS = {"$0", "$1", "$2", "$9", "$$", "a", "b", "-", "\u00ff", "\n", "$0$0"};
    private static final int[] ODD = {-1, 2, 3, 4, 8, 9, 10, Integer.MAX_VALUE, Integer.MIN_VALUE};

    private final PatternMaker maker;
    private final Map<String, Integer> seen;
    private final PatternTrier x = new PatternTrier();
    private final PlainTrier plain = new PlainTrier();
    private final StringBuilder told = new StringBuilder();
    private int calls = 0;

    private RandomRunsTest(PatternMaker maker, Map<String, Integer> seen) {
        this.maker = maker;
        this.seen = seen;
    }

    public static void main(String[] args) {
        PatternMaker maker = new PatternMaker(15L);
        Map<String, Integer> seen = new TreeMap<>();
        for (int i = 0; i < RUNS; i++) {
            new RandomRunsTest(maker, seen).run();
        }
        for (String kind : new String[] {"feed", "end", "pattern", "text", "match", "group", "find", "found",
            "replace", "span", "word", "count"}) {
            enough(seen, kind + " answers");
        }
        for (String kind : new String[] {"feed " + Check.BOUNDS, "end " + Check.ARGUMENT, "pattern " + Check.ARGUMENT,
            "pattern " + Check.BROKEN, "pattern " + Check.BOUNDS, "text " + Check.BOUNDS, "match " + Check.NO_SUCH,
            "match " + Check.BOUNDS, "find " + Check.BOUNDS, "found " + Check.BOUNDS, "replace " + Check.NO_SUCH,
            "replace " + Check.BOUNDS, "replace " + Check.BROKEN, "replace " + Check.STATE, "span " + Check.CAST,
            "word " + Check.BOUNDS, "count " + Check.ARGUMENT}) {
            enough(seen, kind);
        }
        Check.finish();
    }

    private static void enough(Map<String, Integer> seen, String kind) {
        int times = seen.getOrDefault(kind, 0);
        Check.same(kind + " seen " + times + " times, enough", "" + (times >= 20), "true");
    }

    private void run() {
        feedText(text());
        call("text", 0);
        int bound = 20 + maker.next(CALLS - 20 + 1);
        while (calls < bound) {
            step();
        }
    }

    private void call(String name, int... n) {
        if (calls >= CALLS) {
            return;
        }
        String want;
        try {
            want = plain.call(name, n);
        } catch (PlainMatcher.TooLong e) {
            return;
        }
        calls++;
        told.append(name).append(java.util.Arrays.toString(n)).append(' ');
        String got = Check.answer(() -> answer(name, n));
        if (!got.equals(want)) {
            Check.same(told.toString(), got, want);
            calls = CALLS;
        }
        seen.merge(name + (Character.isLetter(want.charAt(0)) ? " " + want : " answers"), 1, Integer::sum);
    }

    private long answer(String name, int[] n) {
        switch (name) {
            case "feed": return x.feed(n[0], n[1], n[2], n[3], n[4]);
            case "end": return x.end(n[0]);
            case "pattern": return x.pattern(n[0]);
            case "text": return x.text(n[0]);
            case "match": return x.match(n[0], n[1], n[2], n[3]);
            case "group": return x.group(n[0], n[1]);
            case "find": return x.find(n[0], n[1]);
            case "found": return x.found(n[0], n[1]);
            case "replace": return x.replace(n[0], n[1]);
            case "span": return x.span(n[0], n[1], n[2]);
            case "word": return x.word(n[0], n[1]);
            default: return x.count(n[0]);
        }
    }

    /** A number below a bound, and now and then one that may be out of range. */
    private int number(int bound) {
        return maker.next(25) == 0 ? ODD[maker.next(ODD.length)] : maker.next(bound);
    }

    private void step() {
        int p = number(3);
        int t = number(2);
        switch (maker.next(16)) {
            case 0: case 1: case 2:
                feedText(pattern());
                call("pattern", p);
                call("count", 1);
                break;
            case 3:
                feedText(text());
                call("text", t);
                break;
            case 4: case 5: case 6: case 7:
                call("match", p, t, number(3), maker.next(6) == 0 ? plain.size(t) + 1 : number(plain.size(t) + 1));
                askGroups();
                break;
            case 8: case 9:
                call("find", p, t);
                askFound();
                break;
            case 10: case 11:
                feedText(model());
                call("replace", p, t);
                call("count", 1);
                askFound();
                askWords(t);
                break;
            case 12:
                call("span", p, t, number(2));
                break;
            case 13:
                call("count", maker.next(42) - 1);
                break;
            case 14:
                call("found", number(plain.found() + 1), number(2));
                call("group", number(10), number(2));
                break;
            default:
                call("word", t, number(plain.size(t) + 1));
                feedInts(maker.next(20) == 0 ? 61 : 1);
                call("end", number(plain.tape().length() + 2));
                break;
        }
    }

    private void feedInts(int times) {
        for (int i = 0; i < times; i++) {
            call("feed", maker.next(1 << 30) << 2, -1 - maker.next(1 << 30), 0x24302424, 0x61626162, maker.next(1 << 30));
        }
    }

    private void askGroups() {
        for (int i = 0; i < 4; i++) {
            call("group", i, 0);
            call("group", i, 1);
        }
    }

    private void askFound() {
        call("count", 2);
        for (int i = 0; i < 3 && i < plain.found(); i++) {
            int k = maker.next(plain.found());
            call("found", k, 0);
            call("found", k, 1);
        }
    }

    private void askWords(int t) {
        for (int i = 0; i < plain.size(t) && i < 40; i += 8) {
            call("word", t, i);
        }
    }

    /** Feeds a text, mostly to an empty tape; what stands on it else stays ahead of the text. */
    private void feedText(String text) {
        if (maker.next(12) != 0) {
            call("end", 0);
        }
        int length = plain.tape().length() + text.length();
        String padded = text + Check.times("\u0000", 19);
        for (int i = 0; i < text.length(); i += 20) {
            call("feed", four(padded, i), four(padded, i + 4), four(padded, i + 8), four(padded, i + 12),
                    four(padded, i + 16));
        }
        call("end", maker.next(60) == 0 ? number(1202) : length);
    }

    private static int four(String bytes, int i) {
        return bytes.charAt(i) << 24 | bytes.charAt(i + 1) << 16 | bytes.charAt(i + 2) << 8 | bytes.charAt(i + 3);
    }

    private String pattern() {
        int kind = maker.next(10);
        if (kind == 0) {
            return SETS[maker.next(SETS.length)];
        }
        if (kind > 2) {
            return (kind == 3 ? maker.makeNested() : maker.make()).told;
        }
        StringBuilder pattern = new StringBuilder();
        int length = maker.next(kind == 1 ? 8 : 5);
        for (int i = 0; i < length; i++) {
            pattern.append(BITS[maker.next(BITS.length)]);
        }
        return kind == 1 ? pattern.toString() : maker.make().told + pattern + maker.make().told;
    }

    private String text() {
        int[] lengths = {299, 300, 301, 999, 1000, 1001, 1200};
        if (maker.next(12) == 0) {
            return Check.times("ab-c", 300).substring(0, lengths[maker.next(lengths.length)]);
        }
        return maker.text(maker.next(3) == 0 ? 50 : 12);
    }

    private String model() {
        StringBuilder model = new StringBuilder();
        int length = maker.next(12) == 0 ? 400 : maker.next(5);
        for (int i = 0; i < length; i++) {
            model.append(MODEL_BITS[maker.next(MODEL_BITS.length)]);
        }
        String tail = maker.next(10) == 0 ? "$" : maker.next(10) == 0 ? "$x" : "";
        return model.length() > 1190 ? model.substring(0, 1190) : model + tail;
    }
}
