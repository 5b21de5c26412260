/** Promise 13: count tells numbers of the state. */
public final class Promise13CountTest {
    public static void main(String[] args) {
        tapeAndFound();
        places();
        patternsAndTexts();
        wrongNumbers();
        Check.finish();
    }

    private static void tapeAndFound() {
        PatternTrier x = new PatternTrier();
        x.feed(0, 0, 0, 0, 0);
        Check.due("the tape", () -> x.count(0), 20);
        x.end(7);
        Check.due("the tape cut", () -> x.count(0), 7);
        x.text(0);
        Check.due("the tape read", () -> x.count(0), 0);
        Check.pattern(x, 0, "");
        Check.due("nothing found", () -> x.count(2), 0);
        x.find(0, 0);
        Check.due("found", () -> x.count(2), 8);
    }

    private static void places() {
        PatternTrier x = Check.trier("a", "a");
        Check.due("not broken", () -> x.count(1), -1);
        Check.answer(() -> Check.pattern(x, 1, "ab*("));
        Check.due("broken", () -> x.count(1), 4);
        Check.text(x, 0, "a");
        x.match(0, 0, 0, 0);
        x.find(0, 0);
        Check.answer(() -> x.match(1, 0, 0, 0));
        Check.due("others leave it", () -> x.count(1), 4);
        Check.answer(() -> Check.replace(x, 0, 0, "a$b"));
        Check.due("a broken replace", () -> x.count(1), 2);
        Check.answer(() -> Check.pattern(x, 1, "*"));
        Check.due("broken at 0", () -> x.count(1), 0);
        Check.replace(x, 0, 0, "a");
        Check.due("a replace that was not", () -> x.count(1), -1);
        Check.answer(() -> Check.pattern(x, 1, "a("));
        Check.due("broken again", () -> x.count(1), 2);
        Check.pattern(x, 1, "a");
        Check.due("a pattern that was not", () -> x.count(1), -1);
        Check.answer(() -> Check.pattern(x, 1, "a("));
        Check.answer(() -> Check.pattern(x, 1, "(?:a{20}){20}"));
        Check.due("too heavy is not broken", () -> x.count(1), -1);
        Check.answer(() -> Check.pattern(x, 1, "a("));
        Check.answer(() -> Check.pattern(x, 8, "a("));
        Check.due("out of range is not broken", () -> x.count(1), -1);
        replacesThatAreNotBroken();
    }

    /** A replace that throws another exception was not broken, either. */
    private static void replacesThatAreNotBroken() {
        PatternTrier x = Check.trier("a", "a");
        Check.text(x, 1, Check.times("a", 301));
        String[] throwing = {Check.ARGUMENT, Check.NO_SUCH, Check.BOUNDS, Check.STATE};
        int[][] numbers = {{8, 0}, {1, 0}, {0, 1}, {0, 0}};
        for (int i = 0; i < throwing.length; i++) {
            int p = numbers[i][0];
            int t = numbers[i][1];
            Check.answer(() -> Check.pattern(x, 2, "ab("));
            Check.due("broken", () -> x.count(1), 3);
            Check.due("replace", () -> Check.replace(x, p, t, Check.times("x", 1100)), throwing[i]);
            Check.due("not broken by " + throwing[i], () -> x.count(1), -1);
        }
    }

    private static void patternsAndTexts() {
        PatternTrier x = new PatternTrier();
        Check.pattern(x, 0, "(a)(?:b)(c)");
        Check.pattern(x, 7, "");
        Check.text(x, 0, "abc");
        Check.text(x, 3, "abcde");
        Check.due("weight 0", () -> x.count(10), 8);
        Check.due("weight 1", () -> x.count(11), -1);
        Check.due("weight 7", () -> x.count(17), 0);
        Check.due("size 0", () -> x.count(20), 3);
        Check.due("size 1", () -> x.count(21), 0);
        Check.due("size 3", () -> x.count(23), 5);
        Check.due("groups 0", () -> x.count(30), 2);
        Check.due("groups 1", () -> x.count(31), -1);
        Check.due("groups 7", () -> x.count(37), 0);
        Check.pattern(x, 6, "(?=(a))(?!(b))((c)){0}((((()))))");
        Check.due("groups 6", () -> x.count(36), 9);
        Check.pattern(x, 7, "[(](a)\\(");
        Check.due("only brackets that are groups", () -> x.count(37), 1);
    }

    private static void wrongNumbers() {
        PatternTrier all = new PatternTrier();
        for (int n = -10; n < 100; n++) {
            int what = n;
            boolean isPattern = what >= 10 && what <= 17 || what >= 30 && what <= 37;
            boolean isTaken = what >= 0 && what <= 2 || what >= 20 && what <= 23 || isPattern;
            String none = isPattern || what == 1 ? "-1" : "0";
            Check.due("count " + what, () -> all.count(what), isTaken ? none : Check.ARGUMENT);
        }
        PatternTrier x = new PatternTrier();
        for (int n : new int[] {-1, 3, 4, 9, 18, 19, 24, 29, 38, 39, 40, 100,
            Integer.MIN_VALUE, Integer.MAX_VALUE}) {
            Check.due("count " + n, () -> x.count(n), Check.ARGUMENT);
        }
    }
}
