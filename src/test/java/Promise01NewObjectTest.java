/** Promise 1: a new object has no PATTERN and no TEXT, and nothing else either. */
public final class Promise01NewObjectTest {
    public static void main(String[] args) {
        PatternTrier x = new PatternTrier();
        Check.due("count(0)", () -> x.count(0), 0);
        Check.due("count(1)", () -> x.count(1), -1);
        Check.due("count(2)", () -> x.count(2), 0);
        for (int i = 0; i < 8; i++) {
            int p = i;
            Check.due("weight of " + p, () -> x.count(10 + p), -1);
            Check.due("groups of " + p, () -> x.count(30 + p), -1);
            Check.due("match " + p, () -> x.match(p, 0, 0, 0), Check.NO_SUCH);
            Check.due("find " + p, () -> x.find(p, 0), Check.NO_SUCH);
            Check.due("replace " + p, () -> x.replace(p, 0), Check.NO_SUCH);
            Check.due("span " + p, () -> x.span(p, 0, 0), Check.NO_SUCH);
        }
        for (int i = 0; i < 4; i++) {
            int t = i;
            Check.due("size of " + t, () -> x.count(20 + t), 0);
            Check.due("word of " + t, () -> x.word(t, 0), Check.BOUNDS);
        }
        for (int i = 0; i < 10; i++) {
            int g = i;
            Check.due("begin of group " + g, () -> x.group(g, 0), -1);
            Check.due("end of group " + g, () -> x.group(g, 1), -1);
        }
        Check.due("found(0, 0)", () -> x.found(0, 0), Check.BOUNDS);
        Check.due("found(0, 1)", () -> x.found(0, 1), Check.BOUNDS);
        emptyTextsCanBeTried();
        objectsShareNothing();
        Check.finish();
    }

    private static void emptyTextsCanBeTried() {
        PatternTrier x = new PatternTrier();
        Check.due("the empty pattern", () -> x.pattern(0), 0);
        Check.due("match of nothing", () -> x.match(0, 3, 0, 0), 0);
        Check.due("find of nothing", () -> x.find(0, 3), 1);
        Check.due("replace of nothing", () -> Check.replace(x, 0, 3, "ab"), 2);
        Check.due("the text after it", () -> x.word(3, 0), 0x6162000000000000L);
    }

    private static void objectsShareNothing() {
        PatternTrier one = Check.trier("(a)", "a");
        PatternTrier other = new PatternTrier();
        one.match(0, 0, 0, 0);
        one.find(0, 0);
        Check.due("pattern of another", () -> other.count(10), -1);
        Check.due("text of another", () -> other.count(20), 0);
        Check.due("found of another", () -> other.count(2), 0);
        Check.due("group of another", () -> other.group(0, 0), -1);
    }
}
