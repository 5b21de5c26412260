/** Promise 5: text takes the tape, any bytes, as a TEXT of at most 1000. */
public final class Promise05TextTest {
    public static void main(String[] args) {
        PatternTrier x = new PatternTrier();
        for (int i = 0; i < 4; i++) {
            int t = i;
            Check.due("text " + t, () -> Check.text(x, t, "text" + t), 5);
            Check.due("the tape after it", () -> x.count(0), 0);
        }
        for (int t = 0; t < 4; t++) {
            Check.same("bytes of " + t, Check.bytes(x, t), "text" + t);
        }
        StringBuilder all = new StringBuilder();
        for (int b = 0; b < 256; b++) {
            all.append((char) b);
        }
        Check.due("all bytes", () -> Check.text(x, 1, all.toString()), 256);
        Check.same("they are", Check.bytes(x, 1), all.toString());
        Check.due("nothing", () -> Check.text(x, 2, ""), 0);
        Check.due("its size", () -> x.count(22), 0);
        limits();
        outOfRange();
        Check.finish();
    }

    private static void limits() {
        PatternTrier x = new PatternTrier();
        Check.due("1000 bytes", () -> Check.text(x, 0, Check.times("abcde", 200)), 1000);
        Check.due("1001 bytes", () -> Check.text(x, 0, Check.times("x", 1001)), Check.BOUNDS);
        Check.due("the tape after it", () -> x.count(0), 0);
        Check.same("the text is as before", Check.bytes(x, 0), Check.times("abcde", 200));
        Check.due("1200 bytes", () -> Check.text(x, 1, Check.times("x", 1200)), Check.BOUNDS);
        Check.due("the text is none", () -> x.count(21), 0);
        Check.due("a short one", () -> Check.text(x, 0, "z"), 1);
        Check.due("no bytes of the one before", () -> x.word(0, 0), (long) 'z' << 56);
    }

    private static void outOfRange() {
        for (int t : new int[] {-1, 4, Integer.MIN_VALUE, Integer.MAX_VALUE}) {
            PatternTrier x = new PatternTrier();
            Check.due("text " + t, () -> Check.text(x, t, "abc"), Check.ARGUMENT);
            Check.due("the tape after it", () -> x.count(0), 0);
            Check.due("a long text " + t, () -> Check.text(x, t, Check.times("a", 1100)), Check.ARGUMENT);
            Check.due("sizes", () -> x.count(20) + x.count(21) + x.count(22) + x.count(23), 0);
        }
    }
}
