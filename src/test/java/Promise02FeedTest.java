/** Promise 2: feed brings 20 bytes, the highest of each int first, to a tape of at most 1200. */
public final class Promise02FeedTest {
    public static void main(String[] args) {
        bytesComeInOrder();
        theTapeHasALimit();
        theLimitIsOfBytes();
        Check.finish();
    }

    private static void bytesComeInOrder() {
        PatternTrier x = new PatternTrier();
        Check.due("feed", () -> x.feed(0x01020304, 0x05060708, -1, 0x80FF7F00, 0x0A0B0C0D), 20);
        Check.due("count(0)", () -> x.count(0), 20);
        Check.due("feed again", () -> x.feed(0x11121314, Integer.MIN_VALUE, Integer.MAX_VALUE, 0, 0x61626364), 40);
        Check.due("text", () -> x.text(1), 40);
        Check.due("bytes 0", () -> x.word(1, 0), 0x0102030405060708L);
        Check.due("bytes 8", () -> x.word(1, 8), 0xFFFFFFFF80FF7F00L);
        Check.due("bytes 16", () -> x.word(1, 16), 0x0A0B0C0D11121314L);
        Check.due("bytes 24", () -> x.word(1, 24), 0x800000007FFFFFFFL);
        Check.due("bytes 32", () -> x.word(1, 32), 0x0000000061626364L);
        Check.due("feed after text", () -> x.feed(0, 0, 0, 0, 0), 20);
    }

    private static void theTapeHasALimit() {
        PatternTrier x = new PatternTrier();
        for (int i = 1; i <= 60; i++) {
            int n = i;
            Check.due("feed " + n, () -> x.feed(n, n, n, n, n), 20 * n);
        }
        Check.due("feed 61", () -> x.feed(99, 99, 99, 99, 99), Check.BOUNDS);
        Check.due("length after it", () -> x.count(0), 1200);
        Check.due("end after it", () -> x.end(1000), 1000);
        Check.due("text after it", () -> x.text(0), 1000);
        Check.due("its first bytes", () -> x.word(0, 0), 0x0000000100000001L);
        Check.due("its last bytes", () -> x.word(0, 992), 0x0000003200000032L);
    }

    private static void theLimitIsOfBytes() {
        PatternTrier x = new PatternTrier();
        for (int i = 0; i < 60; i++) {
            x.feed(0, 0, 0, 0, 0);
        }
        x.end(1181);
        Check.due("feed at 1181", () -> x.feed(1, 1, 1, 1, 1), Check.BOUNDS);
        Check.due("still 1181", () -> x.count(0), 1181);
        x.end(1180);
        Check.due("feed at 1180", () -> x.feed(1, 1, 1, 1, 1), 1200);
    }
}
