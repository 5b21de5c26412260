/**
 * The sentences of "## Terms" that name a limit, each with the last that is taken, the first that
 * is refused, and the PLACE where the document tells one.
 */
public final class TermsTest {
    public static void main(String[] args) {
        theTapeHasAtMost1200Bytes();
        callsThatDoNotReadTheTapeLeaveIt();
        patternsAndTextsAreNoneAtFirst();
        thrownInOrder();
        atMost200Bytes();
        atMost9Groups();
        atMost10Open();
        noQuantifierBehindThese();
        notWithinOneAnother();
        itsLengthAtTheEnd();
        theFirstThatCannotStandIsTold();
        eachWeightUpTo400();
        theHeaviestAreTried();
        brokenComesBeforeTooHeavy();
        roundsThatTakeNoByte();
        allMatches();
        Check.finish();
    }

    private static void weighs(String pattern, int want) {
        PatternTrier x = new PatternTrier();
        Check.due("weight of " + pattern, () -> Check.pattern(x, 0, pattern), want);
        Check.due("count(10) of " + pattern, () -> x.count(10), want);
    }

    private static void stands(String pattern) {
        PatternTrier x = new PatternTrier();
        Check.due("stands: " + pattern, () -> Check.pattern(x, 0, pattern) >= 0 ? 1 : 0, 1);
        Check.due("no place: " + pattern, () -> x.count(1), -1);
    }

    private static void broken(String pattern, int place) {
        PatternTrier x = new PatternTrier();
        Check.due("broken " + pattern, () -> Check.pattern(x, 0, pattern), Check.BROKEN);
        Check.due("place of " + pattern, () -> x.count(1), place);
    }

    /** "THE TAPE has at most 1200 bytes": also its last ones stay behind a refused feed. */
    private static void theTapeHasAtMost1200Bytes() {
        PatternTrier x = Check.trier("a", "a");
        Check.tape(x, Check.times("$$", 599) + "$0");
        Check.due("1200 bytes", () -> x.count(0), 1200);
        Check.due("20 more", () -> x.feed(0, 0, 0, 0, 0), Check.BOUNDS);
        Check.due("still 1200", () -> x.count(0), 1200);
        Check.due("replaced by them", () -> x.replace(0, 0), 600);
        Check.same("the bytes", Check.bytes(x, 0), Check.times("$", 599) + "a");
        Check.text(x, 0, "a");
        Check.tape(x, Check.times("$$", 599) + "$!");
        Check.due("20 more", () -> x.feed(0x30303030, 0, 0, 0, 0), Check.BOUNDS);
        Check.due("broken by the last", () -> x.replace(0, 0), Check.BROKEN);
        Check.due("its place", () -> x.count(1), 1199);
        for (int length = 1170; length <= 1200; length++) {
            PatternTrier y = new PatternTrier();
            Check.tape(y, Check.times("t", length));
            boolean fits = length + 20 <= 1200;
            Check.due("feed at " + length, () -> y.feed(1, 1, 1, 1, 1), fits ? length + 20 + "" : Check.BOUNDS);
            Check.due("then " + length, () -> y.count(0), fits ? length + 20 : length);
        }
    }

    /** "a call that reads THE TAPE leaves it empty": the others do not. */
    private static void callsThatDoNotReadTheTapeLeaveIt() {
        PatternTrier x = Check.trier("[a]", "a");
        Check.tape(x, "tape");
        x.match(0, 0, 0, 0);
        x.group(0, 0);
        x.find(0, 0);
        x.found(0, 0);
        x.span(0, 0, 1);
        x.word(0, 0);
        for (int what : new int[] {0, 1, 2, 10, 20, 30}) {
            x.count(what);
        }
        Check.due("end", () -> x.end(4), 4);
        Check.same("the tape", Check.takenTape(x), "tape");
        Check.due("read, it is empty", () -> x.count(0), 0);
        Check.due("an empty one can be read: text", () -> x.text(1), 0);
        Check.due("an empty one can be read: pattern", () -> x.pattern(1), 0);
        Check.due("an empty one can be read: replace", () -> x.replace(0, 0), 0);
    }

    /** "PATTERNS 0 .. 7 and TEXTS 0 .. 3, none at first (a TEXT is then nothing, 0 bytes)". */
    private static void patternsAndTextsAreNoneAtFirst() {
        for (int i = 0; i < 8; i++) {
            int p = i;
            PatternTrier x = new PatternTrier();
            Check.due("none " + p, () -> x.match(p, p % 4, 0, 0), Check.NO_SUCH);
            Check.due("the empty PATTERN " + p, () -> x.pattern(p), 0);
            Check.due("of nothing " + p, () -> x.match(p, p % 4, 0, 0), 0);
            for (int k = 0; k < 8; k++) {
                int other = k;
                Check.due(k + " behind " + p, () -> x.find(other, 0), other == p ? "1" : Check.NO_SUCH);
            }
        }
        for (int i = 0; i < 4; i++) {
            int t = i;
            PatternTrier x = new PatternTrier();
            Check.pattern(x, 0, "");
            Check.due("at 0 of nothing", () -> x.match(0, t, 1, 0), 0);
            Check.due("at 1 of nothing", () -> x.match(0, t, 1, 1), Check.BOUNDS);
            Check.due("from 0 of nothing", () -> x.match(0, t, 2, 0), 0);
            Check.due("from 1 of nothing", () -> x.match(0, t, 2, 1), Check.BOUNDS);
            Check.text(x, t, "abc");
            for (int k = 0; k < 4; k++) {
                int other = k;
                Check.due("size of " + k + " behind " + t, () -> x.count(20 + other), other == t ? 3 : 0);
            }
        }
    }

    /** "What is thrown, in this order": each call with each of its numbers right and wrong. */
    private static void thrownInOrder() {
        int[] ps = {Integer.MIN_VALUE, -1, 0, 1, 7, 8, Integer.MAX_VALUE};
        int[] ts = {Integer.MIN_VALUE, -1, 0, 1, 3, 4, Integer.MAX_VALUE};
        for (int p : ps) {
            for (int t : ts) {
                String first = p < 0 || p > 7 || t < 0 || t > 3 ? Check.ARGUMENT : p != 0 ? Check.NO_SUCH : "";
                matchInOrder(p, t, first);
                spanInOrder(p, t, first);
                replaceInOrder(p, t, first);
                String then = !first.isEmpty() ? first : t == 1 ? Check.BOUNDS : "1";
                PatternTrier x = orderTrier();
                Check.due("find " + p + " " + t, () -> x.find(p, t), then);
            }
        }
    }

    /** PATTERN 0 alone, which is no SET; TEXT 1 with 301 bytes. */
    private static PatternTrier orderTrier() {
        PatternTrier x = Check.trier("(?:)$", "a");
        Check.text(x, 1, Check.times("a", 301));
        return x;
    }

    private static void matchInOrder(int p, int t, String first) {
        PatternTrier x = orderTrier();
        for (int how : new int[] {Integer.MIN_VALUE, -1, 0, 1, 2, 3, Integer.MAX_VALUE}) {
            for (int a : new int[] {Integer.MIN_VALUE, -1, 0, 302, Integer.MAX_VALUE}) {
                boolean wrongHow = how < 0 || how > 2;
                String want = first.equals(Check.ARGUMENT) || wrongHow ? Check.ARGUMENT : first;
                if (want.isEmpty() && how != 0 && a != 0) {
                    want = Check.BOUNDS;
                }
                if (want.isEmpty()) {
                    int size = t == 0 ? 1 : t == 1 ? 301 : 0;
                    want = how == 2 || size == 0 ? "" + size : "-1";
                }
                Check.due("match " + p + " " + t + " " + how + " " + a, () -> x.match(p, t, how, a), want);
            }
        }
    }

    private static void spanInOrder(int p, int t, String first) {
        PatternTrier x = orderTrier();
        for (int in : new int[] {Integer.MIN_VALUE, -1, 0, 1, 2, Integer.MAX_VALUE}) {
            String want = in < 0 || in > 1 ? Check.ARGUMENT : first.isEmpty() ? Check.CAST : first;
            Check.due("span " + p + " " + t + " " + in, () -> x.span(p, t, in), want);
        }
    }

    private static void replaceInOrder(int p, int t, String first) {
        String[] models = {"y", Check.times("x", 1199) + "$", Check.times("x", 1001)};
        String[] wants = {t == 0 ? "2" : "1", Check.BROKEN, Check.STATE};
        for (int i = 0; i < models.length; i++) {
            String model = models[i];
            PatternTrier x = orderTrier();
            String want = !first.isEmpty() ? first : t == 1 ? Check.BOUNDS : wants[i];
            Check.due("replace " + p + " " + t + " by " + i, () -> Check.replace(x, p, t, model), want);
        }
    }

    /** "PATTERN: THE TAPE (at most 200 bytes 32 .. 126)". */
    private static void atMost200Bytes() {
        for (String pattern : new String[] {Check.times("a", 200), Check.times("|", 200), Check.times("a*", 100),
            Check.times("()", 9) + Check.times("a?", 91), Check.times("(?:)", 50), "[^" + Check.times("~", 197) + "]",
            Check.times("()*", 9) + Check.times(".", 173), Check.times("\\d", 100), Check.times("[a]", 66) + "bc"}) {
            Check.same("bytes", "" + pattern.length(), "200");
            stands(pattern);
            broken(pattern + "a", 200);
            broken(pattern + "|", 200);
            broken(pattern + "*", 200);
            broken(pattern + "\u0000", 200);
            broken(pattern + Check.times("a", 1000), 200);
        }
        // A byte that can't stand ahead of the 201st is the first.
        broken(Check.times("a", 199) + ")" + "a", 199);
        broken(Check.times("a", 199) + "\u007f" + "a", 199);
        // What is still open behind 200 bytes can't be closed.
        broken(Check.times("a", 196) + "(?:a" + ")", 200);
        broken(Check.times("a", 198) + "[a" + "]", 200);
        broken(Check.times("a", 198) + "{1" + "}", 200);
        broken(Check.times("a", 197) + "{1," + "2}", 200);
        broken(Check.times("a", 199) + "\\" + "d", 200);
        broken(Check.times("a", 198) + "(?" + ":)", 200);
        PatternTrier x = Check.trier(Check.times("a", 199) + "b", Check.times("a", 199) + "b");
        Check.due("all 200 count", () -> x.match(0, 0, 0, 0), 200);
        PatternTrier y = Check.trier(Check.times("|", 199) + "b", "b");
        Check.due("the last of 200 ways", () -> y.match(0, 0, 0, 0), 1);
        PatternTrier z = Check.trier(Check.times("()", 9) + Check.times("a?", 90) + "bc", "aaabc");
        Check.due("the most parts", () -> z.match(0, 0, 0, 0), 5);
    }

    /** "( ALT ) a GROUP, numbered by its ( from 1, at most 9" and the PLACE of a 10th. */
    private static void atMost9Groups() {
        groups(Check.times("(a)", 9), 9);
        groups(Check.times("(", 9) + Check.times(")", 9), 9);
        groups("(?:" + Check.times("()", 9) + "){0}", 9);
        groups("(?=" + Check.times("()", 5) + ")(?!" + Check.times("()", 4) + ")", 9);
        groups(Check.times("()|", 9) + "(?:a)", 9);
        groups(Check.times("()", 9) + "\\([(]", 9);
        groups("(?:a)(?=a)(?!a)", 0);
        broken(Check.times("(a)", 9) + "(a)", 27);
        broken(Check.times("(", 10), 9);
        broken(Check.times("()", 9) + "(?:(", 21);
        broken(Check.times("()", 9) + "(?=(", 21);
        broken(Check.times("()", 9) + "(?!a|()", 23);
        broken("(?:" + Check.times("()", 9) + "){0}()", 25);
        broken(Check.times("()", 9) + "(*)", 18);
        PatternTrier x = Check.trier("(a)(?:(b)|(c))((d)(e))(f)(g)(h)", "abdefgh");
        x.match(0, 0, 0, 0);
        Check.same("numbered by their (", Check.groups(x, 9), "0-7 0-1 1-2 . 2-4 2-3 3-4 4-5 5-6 6-7");
    }

    private static void groups(String pattern, int want) {
        PatternTrier x = new PatternTrier();
        Check.pattern(x, 5, pattern);
        Check.due("groups of " + pattern, () -> x.count(35), want);
    }

    /** "At most 10 ( open", and the PLACE of an 11th. */
    private static void atMost10Open() {
        String nine = Check.times("(?:", 9);
        String[] opens = {"(", "(?:", "(?=", "(?!"};
        for (String tenth : opens) {
            stands(nine + tenth + Check.times(")", 10));
            stands(nine + tenth + "a" + Check.times(")", 10) + "(?:b)");
            // One that is closed makes room for another.
            stands(nine + tenth + ")" + tenth + ")" + tenth + Check.times(")", 10));
            for (String eleventh : opens) {
                int place = 27 + tenth.length();
                broken(nine + tenth + eleventh, place);
                broken(nine + tenth + eleventh + Check.times(")", 11), place);
                broken(nine + tenth + "a|" + eleventh + "a", place + 2);
            }
            broken(nine + tenth + "(?", 27 + tenth.length());
            broken(nine + tenth + "(?x", 27 + tenth.length());
        }
        stands(Check.times(Check.times("(?:", 5) + Check.times(")", 5), 10));
        stands(Check.times("(?:", 10) + "\\([(]" + Check.times(")", 10));
    }

    /** "no quantifier behind ^, $, \b, \B, (?=, (?!". */
    private static void noQuantifierBehindThese() {
        String[] quantifiers = {"*", "+", "?", "{1}", "{0}", "{1,}", "{1,2}", "*?", "++", "??"};
        for (String none : new String[] {"^", "$", "\\b", "\\B", "(?=a)", "(?!a)", "(?=)"}) {
            stands(none);
            stands("a*" + none + "a*");
            stands(none + none);
            for (String quantifier : quantifiers) {
                broken(none + quantifier, none.length());
                broken("a" + none + quantifier + "a", none.length() + 1);
                broken("(?:" + none + quantifier + ")", none.length() + 3);
                if (!quantifier.equals("++") || none.indexOf("(") < 0) {
                    stands("(?:" + none + ")" + quantifier);
                }
            }
        }
        for (String atom : new String[] {"a", ".", "\\d", "\\.", "[a]", "(a)", "(?:a)", "()", "]", "}"}) {
            for (String quantifier : quantifiers) {
                stands(atom + quantifier);
                broken(atom + quantifier + "*", atom.length() + quantifier.length());
                broken(atom + quantifier + "{1}", atom.length() + quantifier.length());
            }
        }
    }

    /** "Lookaheads, and what a possessive + stands behind, do not stand within one another". */
    private static void notWithinOneAnother() {
        for (String ahead : new String[] {"(?=", "(?!"}) {
            for (String inner : new String[] {"(?=", "(?!"}) {
                broken(ahead + inner + "a))", 3);
                broken(ahead + "b(" + inner + "a)))", 5);
                stands(ahead + "a)" + inner + "a)");
                stands("(?:" + ahead + "a))" + inner + "a)");
            }
            for (String kept : new String[] {"*+", "++", "?+", "{2}+", "{2,}+", "{0,2}+"}) {
                String atom = "a" + kept;
                brokenAtItsEnd(ahead + atom);
                brokenAtItsEnd(ahead + "b|(?:" + atom);
                stands(ahead + "a)" + atom);
                stands(atom + ahead + "a)");
                String plain = kept.substring(0, kept.length() - 1);
                stands(ahead + "a" + plain + ")");
                stands(ahead + "a" + plain + "?)");
                brokenAtItsEnd("(?:" + ahead + "a))" + kept);
                brokenAtItsEnd("(?:b|(c" + ahead + "a)))" + kept);
                stands("(?:" + ahead + "a))" + plain);
                stands("(?:" + ahead + "a))" + plain + "?");
                brokenAtItsEnd("(?:" + atom + ")" + kept);
                brokenAtItsEnd("(?:b|(c" + atom + "))" + kept);
                brokenAtItsEnd("(?:" + ahead + "a)" + atom + ")" + kept);
                stands("(?:" + atom + ")" + plain);
                stands("(?:a" + plain + ")" + kept);
                stands(atom + atom);
            }
        }
    }

    /** Its last byte is a + that can't stand there. */
    private static void brokenAtItsEnd(String pattern) {
        broken(pattern, pattern.length() - 1);
        broken(pattern + "b)", pattern.length() - 1);
    }

    /** "its length at the end": a pattern that is cut where it could go on. */
    private static void itsLengthAtTheEnd() {
        for (String cut : new String[] {"(", "(a", "(?", "(?:", "(?:a", "(?=", "(?!a", "(a|", "((a)", "[", "[^", "[a", "[a-",
            "[a-b", "[^a", "[\\", "[\\d", "[a\\]", "\\", "a\\", "a{", "a{1", "a{20", "a{1,", "a{1,2", "a{0", "a{0,0"}) {
            broken(cut, cut.length());
            broken("b" + cut, cut.length() + 1);
        }
    }

    /** "the first byte that can't stand there": what comes behind it does not matter. */
    private static void theFirstThatCannotStandIsTold() {
        for (String behind : new String[] {"", "*", ")", "(", "[", "\\", "{21}", "[b-a]", "\u0000", Check.times("a", 300)}) {
            broken("a**" + behind, 2);
            broken("a)" + behind, 1);
            broken("a{2,1}" + behind, 4);
            broken("a{21}" + behind, 2);
            broken("[b-a]" + behind, 1);
            broken("(?<" + behind, 2);
            broken("\\q" + behind, 1);
            broken("^*" + behind, 1);
            broken("a\n" + behind, 1);
        }
    }

    /** "WEIGHT: ... together above 400": each way to weigh, up to 400 and 401 in all. */
    private static void eachWeightUpTo400() {
        weighsInAll("a", 1);
        weighsInAll("|", 1);
        weighsInAll("[a-z]", 1);
        weighsInAll("^", 1);
        weighsInAll("\\b", 1);
        weighsInAll("(?:)", 1);
        weighsInAll("(?=)", 1);
        weighsInAll("(?!)", 1);
        weighsInAll("(?:ab)", 3);
        weighsInAll("(?=ab)", 3);
        weighsInAll("(?!ab)", 3);
        weighsInAll("()", 2);
        weighsInAll("(ab)", 4);
        weighsInAll("a*", 2);
        weighsInAll("a?", 2);
        weighsInAll("a+", 3);
        weighsInAll("(a)+", 7);
        weighsInAll("a{3}", 3);
        weighsInAll("a{3,}", 5);
        weighsInAll("a{3,5}", 7);
        weighsInAll("(a){3}", 9);
        weighsInAll("(a){3,}", 13);
        weighsInAll("(a){3,5}", 17);
        weighsInAll("(a){0,5}", 20);
        weighsInAll("a*+", 3);
        weighsInAll("a?+", 3);
        weighsInAll("a++", 4);
        weighsInAll("a{3}+", 4);
        weighsInAll("a{3,}+", 6);
        weighsInAll("a{3,5}+", 8);
        weighsInAll("a{0}+", 1);
        weighsInAll("a*?", 2);
        weighsInAll("a+?", 3);
        weighsInAll("a{3,5}?", 7);
        weighsInAll("(a|b|)", 6);
        weighsInAll("(?:(?:a{20}){20}){0}b", 1);
        weighs("(?:(?:a{20}){20}){0}", 0);
        weighs("(?:(?:(?:(?:a{20}){20}){20}){20}){0}", 0);
    }

    private static void weighsInAll(String part, int weight) {
        weighs(part, weight);
        String[] pads = {Check.times("b{20}", (400 - weight) / 20) + "b{" + (400 - weight) % 20 + "}",
            Check.times("b{20}", (401 - weight) / 20) + "b{" + (401 - weight) % 20 + "}"};
        weighs(part + pads[0], 400);
        weighs(pads[0] + part, 400);
        for (String heavy : new String[] {part + pads[1], pads[1] + part, pads[1] + part + part}) {
            PatternTrier x = new PatternTrier();
            Check.due("too heavy " + heavy, () -> Check.pattern(x, 0, heavy), Check.BOUNDS);
            Check.due("no place of " + heavy, () -> x.count(1), -1);
            Check.due("no pattern of " + heavy, () -> x.count(10), -1);
        }
    }

    /** What weighs 400 is a PATTERN as any other, in whatever way it weighs so much. */
    private static void theHeaviestAreTried() {
        tried("(?:" + Check.times("a*", 66) + "){3}b", "aab");
        tried("(?:(a){13}){10}", Check.times("a", 130));
        tried("(?:a{19}){19}a{19}b", Check.times("a", 380) + "b");
        tried("(?:a{0,19}){10}a{9}b", Check.times("a", 199) + "b");
        tried("(?:a{16,}b){20}", Check.times(Check.times("a", 16) + "b", 20));
        tried("(?:a{18}){0,19}b{20}", Check.times("a", 342) + Check.times("b", 20));
        tried("(?:(?:b?+){12}a){8}", Check.times("a", 8));
        tried("(?:" + Check.times("b|", 9) + "a){20}", Check.times("a", 20));
        tried("(?:(?:){18}a){20}", Check.times("a", 20));
        tried("(?:" + Check.times("(?=a)", 9) + "a){20}", Check.times("a", 20));
        tried("(?:" + Check.times("(?!b)", 9) + "a){20}", Check.times("a", 20));
    }

    private static void tried(String pattern, String text) {
        PatternTrier x = Check.trier("", text);
        Check.due("weight of " + pattern, () -> Check.pattern(x, 0, pattern), 400);
        Check.due("to the end: " + pattern, () -> x.match(0, 0, 0, 0), text.length());
        Check.due("at 0: " + pattern, () -> x.match(0, 0, 1, 0), text.length());
        Check.text(x, 0, text.substring(1) + "c");
        Check.due("to another end: " + pattern, () -> x.match(0, 0, 0, 0), -1);
    }

    private static void brokenComesBeforeTooHeavy() {
        String heavy = "(?:a{20}){20}";
        PatternTrier x = new PatternTrier();
        Check.due("heavy", () -> Check.pattern(x, 0, heavy), Check.BOUNDS);
        broken(heavy + "(", 14);
        broken(heavy + "*", 13);
        broken(heavy + "{21}", 13);
        broken(heavy + "\u0080", 13);
        broken("(?:" + heavy + "){20", 20);
        broken(heavy + Check.times("a", 188), 200);
    }

    /** "a round beyond n of * + {n,} that takes no byte is no way": those up to n are, and all of ? {n,m}. */
    private static void roundsThatTakeNoByte() {
        are("()*", ". .");
        are("()+", "0-0 0-0");
        are("(){0,}", ". .");
        are("(){1,}", "0-0 0-0");
        are("(){2,}", "0-0 0-0");
        are("()?", "0-0 0-0");
        are("(){0,1}", "0-0 0-0");
        are("(){0,2}", "0-0 0-0");
        are("()*?", ". .");
        are("()*+", ". .");
        are("()++", "0-0 0-0");
        are("()?+", "0-0 0-0");
        are("(b|)*", ". .");
        are("(b|){1,}", "0-0 0-0");
        are("(|a)*", "0-2 1-2");
        are("(|a)+", "0-2 1-2");
        are("(|a){2,}", "0-2 1-2");
        are("(|a){0,2}", "0-0 0-0");
        are("(?:(a)|(b)|())*", "0-2 1-2 . .");
        are("(?:(a)|(b)|())+", "0-2 1-2 . .");
        are("(?:(a)|(b)|()){3,}", "0-2 1-2 . 2-2");
        are("(?:(a)|(b)|()){3}", "0-2 1-2 . 2-2");
        are("(?:(?=(a))|b)*", ". .");
        are("(?:(?=(a))|b)+", "0-0 0-1");
    }

    /** The GROUPS of a match at 0 of "aac"; GROUP 0 told as . where it is 0-0 and no other is one. */
    private static void are(String pattern, String want) {
        PatternTrier x = Check.trier(pattern, "aac");
        Check.due("match " + pattern, () -> x.match(0, 0, 1, 0) >= 0 ? 1 : 0, 1);
        String groups = Check.groups(x, x.count(30));
        Check.same("groups of " + pattern, groups, want.startsWith(".") ? "0-0" + want.substring(1) : want);
    }

    /** "ALL MATCHES ...: from place 0 on, each the first from where the one before ended". */
    private static void allMatches() {
        found("", "aa", "0-0 1-1 2-2");
        found("a*", "aa", "0-2 2-2");
        found("a*", "baab", "0-0 1-3 3-3 4-4");
        found("a*?", "aa", "0-0 1-1 2-2");
        found("(?=a)|b", "ab", "0-0 1-2");
        found("(?=a)|a", "aa", "0-0 1-1");
        found("$|a", "aa", "0-1 1-2 2-2");
        found("^|a", "aa", "0-0 1-2");
        found("a$|^", "aa", "0-0 1-2");
        found("\\b|a", "aa", "0-0 1-2 2-2");
        found("aba", "ababa", "0-3");
    }

    private static void found(String pattern, String text, String want) {
        PatternTrier x = Check.trier(pattern, text);
        Check.due("find " + pattern, () -> x.find(0, 0), want.split(" ").length);
        Check.same("found of " + pattern, Check.found(x), want);
    }
}
