/** Promise 3: end keeps the first n bytes of the tape. */
public final class Promise03EndTest {
    public static void main(String[] args) {
        PatternTrier x = new PatternTrier();
        Check.due("end(0) of nothing", () -> x.end(0), 0);
        Check.due("end(1) of nothing", () -> x.end(1), Check.ARGUMENT);
        Check.due("end(-1) of nothing", () -> x.end(-1), Check.ARGUMENT);
        x.feed(0x61626364, 0x65666768, 0x696A6B6C, 0x6D6E6F70, 0x71727374);
        Check.due("end(21) of 20", () -> x.end(21), Check.ARGUMENT);
        Check.due("end(-1) of 20", () -> x.end(-1), Check.ARGUMENT);
        Check.due("end(MIN) of 20", () -> x.end(Integer.MIN_VALUE), Check.ARGUMENT);
        Check.due("end(MAX) of 20", () -> x.end(Integer.MAX_VALUE), Check.ARGUMENT);
        Check.due("still 20", () -> x.count(0), 20);
        Check.due("end(20)", () -> x.end(20), 20);
        Check.due("end(5)", () -> x.end(5), 5);
        Check.due("length", () -> x.count(0), 5);
        Check.due("end(6) after it", () -> x.end(6), Check.ARGUMENT);
        Check.due("feed behind them", () -> x.feed(0x78797A30, 0, 0, 0, 0), 25);
        Check.due("end(9)", () -> x.end(9), 9);
        Check.due("text", () -> x.text(0), 9);
        Check.same("its bytes", Check.bytes(x, 0), "abcdexyz0");
        x.feed(1, 2, 3, 4, 5);
        Check.due("end(0)", () -> x.end(0), 0);
        Check.due("nothing", () -> x.count(0), 0);
        Check.due("the empty text", () -> x.text(0), 0);
        Check.finish();
    }
}
