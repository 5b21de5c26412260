/**
 * Promise 4 over random texts: what stands ahead of the place where a pattern is broken could be
 * the beginning of a pattern, and what stands behind that place does not matter.
 */
public final class BrokenPlacesTest {
    private static final String[] BITS = {
        "a", "b", "0", "1", "2", "{", "}", "{1,", "{2}", "{0,2}", "{21", "(", "(", "(?:", "(?=", "(?!", "(?",
        ")", ")", ")", "[", "[^", "]", "]", "-", "b-a", "a-b", "\\", "\\d", "\\W", "\\b", "\\.", "*", "+", "?",
        "++", "*?", "|", "^", "$", ".", ",", " ", "\n"
    };
    private static int valid = 0;

    public static void main(String[] args) {
        PatternMaker maker = new PatternMaker(4L);
        for (int i = 0; i < 40000; i++) {
            PatternTrier x = new PatternTrier();
            StringBuilder pattern = new StringBuilder();
            int length = 1 + maker.next(10);
            for (int k = 0; k < length; k++) {
                pattern.append(BITS[maker.next(BITS.length)]);
            }
            tryOne(x, pattern.toString());
        }
        Check.same("enough were patterns", "" + (valid > 1000), "true");
        Check.finish();
    }

    private static void tryOne(PatternTrier x, String pattern) {
        int place = place(x, pattern);
        if (place < 0) {
            valid++;
        }
        int good = place < 0 ? pattern.length() : place;
        Check.same("within " + pattern, "" + (good <= pattern.length()), "true");
        for (int k = 0; k <= Math.min(good, pattern.length()); k++) {
            int cut = place(x, pattern.substring(0, k));
            if (cut >= 0) {
                Check.same("ends early " + pattern.substring(0, k), "" + cut, "" + k);
            }
        }
        if (place >= 0 && place < pattern.length()) {
            Check.same("behind it " + pattern, "" + place(x, pattern + "a"), "" + place);
            Check.same("behind it " + pattern, "" + place(x, pattern + "("), "" + place);
        }
    }

    /** Where a pattern is broken, or -1. */
    private static int place(PatternTrier x, String pattern) {
        String answer = Check.answer(() -> Check.pattern(x, 0, pattern));
        boolean isBroken = answer.equals(Check.BROKEN);
        int place = x.count(1);
        Check.same("place and throw " + pattern, "" + isBroken, "" + (place >= 0));
        return place;
    }
}
