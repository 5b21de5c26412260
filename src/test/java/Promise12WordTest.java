/** Promise 12: word tells 8 bytes of a TEXT, with zeros behind its end. */
public final class Promise12WordTest {
    public static void main(String[] args) {
        PatternTrier x = new PatternTrier();
        Check.text(x, 2, "abcdefghij");
        Check.due("word 0", () -> x.word(2, 0), 0x6162636465666768L);
        Check.due("word 1", () -> x.word(2, 1), 0x6263646566676869L);
        Check.due("word 2", () -> x.word(2, 2), 0x636465666768696AL);
        Check.due("word 3", () -> x.word(2, 3), 0x6465666768696A00L);
        Check.due("word 9", () -> x.word(2, 9), 0x6A00000000000000L);
        Check.due("word 10", () -> x.word(2, 10), Check.BOUNDS);
        Check.due("word -1", () -> x.word(2, -1), Check.BOUNDS);
        Check.due("word MIN", () -> x.word(2, Integer.MIN_VALUE), Check.BOUNDS);
        Check.due("word MAX", () -> x.word(2, Integer.MAX_VALUE), Check.BOUNDS);
        Check.due("of no text", () -> x.word(0, 0), Check.BOUNDS);
        Check.text(x, 0, "\u00ff\u0080\u0001\u007f\u00fe");
        Check.due("high bytes", () -> x.word(0, 0), 0xFF80017FFE000000L);
        Check.due("high bytes from 1", () -> x.word(0, 1), 0x80017FFE00000000L);
        Check.text(x, 2, "zy");
        Check.due("nothing of a text before", () -> x.word(2, 0), 0x7A79000000000000L);
        Check.text(x, 3, Check.times("x", 999) + "y");
        Check.due("the last byte", () -> x.word(3, 999), 0x7900000000000000L);
        Check.due("behind the last", () -> x.word(3, 1000), Check.BOUNDS);
        for (int t : new int[] {-1, 4, Integer.MIN_VALUE, Integer.MAX_VALUE}) {
            Check.due("t " + t, () -> x.word(t, 0), Check.ARGUMENT);
            Check.due("t before i " + t, () -> x.word(t, -1), Check.ARGUMENT);
        }
        eachPlaceOfEachSize();
        Check.finish();
    }

    /** "zeros behind its end; i is none of its bytes: IndexOutOfBoundsException". */
    private static void eachPlaceOfEachSize() {
        for (int size = 0; size <= 20; size++) {
            PatternTrier x = new PatternTrier();
            Check.text(x, 1, Check.times("\u00ff", 20));
            Check.text(x, 1, "\u00f0\u00f1\u00f2\u00f3\u00f4\u00f5\u00f6\u00f7\u00f8\u00f9".repeat(2).substring(0, size));
            for (int k = -2; k <= 22; k++) {
                int i = k;
                long want = 0;
                for (int b = 0; b < 8; b++) {
                    want = want << 8 | (i + b < size ? 0xF0 + (i + b) % 10 : 0);
                }
                boolean is = i >= 0 && i < size;
                Check.due("word " + i + " of " + size, () -> x.word(1, i), is ? Long.toString(want) : Check.BOUNDS);
            }
        }
    }
}
