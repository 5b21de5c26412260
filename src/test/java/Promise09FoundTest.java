/** Promise 9: found tells the begin and the end of what was FOUND last. */
public final class Promise09FoundTest {
    public static void main(String[] args) {
        PatternTrier x = Check.trier("a+", "aabaa");
        Check.due("before any find", () -> x.found(0, 0), Check.BOUNDS);
        x.find(0, 0);
        Check.due("begin 0", () -> x.found(0, 0), 0);
        Check.due("end 0", () -> x.found(0, 1), 2);
        Check.due("begin 1", () -> x.found(1, 0), 3);
        Check.due("end 1", () -> x.found(1, 1), 5);
        Check.due("i 2", () -> x.found(2, 0), Check.BOUNDS);
        Check.due("i -1", () -> x.found(-1, 0), Check.BOUNDS);
        Check.due("i MIN", () -> x.found(Integer.MIN_VALUE, 1), Check.BOUNDS);
        Check.due("i MAX", () -> x.found(Integer.MAX_VALUE, 1), Check.BOUNDS);
        Check.due("part 2", () -> x.found(0, 2), Check.ARGUMENT);
        Check.due("part -1", () -> x.found(0, -1), Check.ARGUMENT);
        Check.due("part before i", () -> x.found(9, 2), Check.ARGUMENT);
        Check.due("replace", () -> Check.replace(x, 0, 0, "xyz"), 7);
        Check.same("places as before it", Check.found(x), "0-2 3-5");
        Check.pattern(x, 1, "y");
        Check.due("replace of others", () -> Check.replace(x, 1, 0, ""), 5);
        Check.same("places of others", Check.found(x), "1-2 5-6");
        x.match(1, 0, 2, 0);
        Check.text(x, 0, "q");
        Check.same("match and text leave it", Check.found(x), "1-2 5-6");
        Check.due("find nothing", () -> x.find(1, 0), 0);
        Check.due("there is none", () -> x.found(0, 0), Check.BOUNDS);
        Check.finish();
    }
}
