import java.util.function.IntPredicate;

/**
 * Terms, PATTERN: which bytes can stand where. Each byte 0 .. 255 is tried as an ATOM, behind \, in
 * [ ] and as an end of a range; each number as n and m.
 */
public final class EveryByteTest {
    private static final String NO_ATOM = "\\|*+?()[{.^$";

    public static void main(String[] args) {
        atoms();
        escapes();
        members();
        escapedMembers();
        ranges();
        numbers();
        numbersThatBeginWithZero();
        roundsTaken();
        Check.finish();
    }

    private static boolean canStand(int b) {
        return b >= 32 && b <= 126;
    }

    private static boolean isDigit(int b) {
        return b >= '0' && b <= '9';
    }

    private static boolean isLetterOrDigit(int b) {
        return b != '_' && PlainMatcher.isWordByte(b);
    }

    private static void broken(String pattern, int place) {
        PatternTrier x = new PatternTrier();
        Check.due("broken " + pattern, () -> Check.pattern(x, 0, pattern), Check.BROKEN);
        Check.due("place of " + pattern, () -> x.count(1), place);
    }

    /** A pattern of one byte that takes just some bytes; 128 at a time, for the calls it needs. */
    private static void takes(String pattern, int weight, IntPredicate which) {
        for (int first = 0; first < 256; first += 128) {
            PatternTrier x = new PatternTrier();
            StringBuilder text = new StringBuilder();
            StringBuilder want = new StringBuilder();
            for (int k = 0; k < 128; k++) {
                text.append((char) (first + k));
                if (which.test(first + k)) {
                    want.append(want.length() == 0 ? "" : " ").append(k).append('-').append(k + 1);
                }
            }
            Check.text(x, 0, text.toString());
            Check.due("weight of " + pattern, () -> Check.pattern(x, 0, pattern), weight);
            x.find(0, 0);
            Check.same("what " + pattern + " takes from " + first, Check.found(x), want.toString());
        }
    }

    private static IntPredicate classOf(int sign) {
        switch (sign) {
            case 'd': return EveryByteTest::isDigit;
            case 'w': return PlainMatcher::isWordByte;
            case 's': return b -> b >= 9 && b <= 13 || b == 32;
            case 'D': return classOf('d').negate();
            case 'W': return classOf('w').negate();
            case 'S': return classOf('s').negate();
            default: return null;
        }
    }

    private static void atoms() {
        for (int i = 0; i < 256; i++) {
            int b = i;
            String atom = String.valueOf((char) b);
            if (!canStand(b)) {
                broken(atom, 0);
                broken("a" + atom, 1);
            } else if (NO_ATOM.indexOf(b) < 0) {
                takes(atom, 1, other -> other == b);
            }
        }
        for (String first : new String[] {"*", "+", "?", ")", "{"}) {
            broken(first, 0);
            broken("a|" + first, 2);
            broken("(?:a)" + (first.equals(")") ? first : "|" + first), first.equals(")") ? 5 : 6);
        }
        for (String open : new String[] {"\\", "(", "["}) {
            broken(open, 1);
        }
        takes(".", 1, b -> b != 10);
        takes("[\\d\\D]", 1, b -> true);
    }

    private static void escapes() {
        for (int i = 0; i < 256; i++) {
            int b = i;
            String atom = "\\" + (char) b;
            if (classOf(b) != null) {
                takes(atom, 1, classOf(b));
            } else if (!canStand(b) || isLetterOrDigit(b) && b != 'b' && b != 'B') {
                broken(atom, 1);
                broken("a" + atom + "a", 2);
            } else if (b != 'b' && b != 'B') {
                takes(atom, 1, other -> other == b);
            }
        }
        PatternTrier x = Check.trier("\\b", "a-");
        Check.due("\\b", () -> x.find(0, 0), 2);
        Check.due("\\B", () -> Check.pattern(x, 0, "\\B"), 1);
        Check.due("\\B", () -> x.find(0, 0), 1);
    }

    private static void members() {
        for (int i = 0; i < 256; i++) {
            int b = i;
            String set = "[" + (char) b + "]";
            String others = "[^" + (char) b + "]";
            if (!canStand(b) || b == ']') {
                broken(set, 1);
                broken(others, 2);
                continue;
            }
            if (b == '\\') {
                broken(set, 3);
                broken(others, 4);
                continue;
            }
            if (b == '^') {
                broken(set, 2);
            } else {
                takes(set, 1, other -> other == b);
            }
            takes(others, 1, other -> other != b);
            takes("[~" + (char) b + "]", 1, other -> other == '~' || other == b);
        }
    }

    private static void escapedMembers() {
        for (int i = 0; i < 256; i++) {
            int b = i;
            String set = "[!\\" + (char) b + "]";
            if (classOf(b) != null) {
                takes(set, 1, other -> other == '!' || classOf(b).test(other));
            } else if (!canStand(b) || isLetterOrDigit(b)) {
                broken(set, 3);
            } else {
                takes(set, 1, other -> other == '!' || other == b);
            }
        }
    }

    private static void ranges() {
        for (int i = 32; i <= 126; i++) {
            for (int k = 32; k <= 126; k++) {
                int x = i;
                int y = k;
                if (x != '\\' && x != ']' && x != '^' && y != '\\' && y != ']') {
                    range("[" + (char) x + "-" + (char) y + "]", x, y, 1);
                }
            }
        }
        takes("[a-]", 1, b -> b == 'a' || b == '-');
        takes("[^a-]", 1, b -> b != 'a' && b != '-');
        takes("[^-a]", 1, b -> b != '-' && b != 'a');
        takes("[--]", 1, b -> b == '-');
        takes("[^--]", 1, b -> b != '-');
        takes("[ -]", 1, b -> b == ' ' || b == '-');
        takes("[!^-a]", 1, b -> b == '!' || b >= '^' && b <= 'a');
        takes("[!-\\d]", 1, b -> b == '!' || b == '-' || isDigit(b));
        takes("[!-\\]]", 1, b -> b == '!' || b == '-' || b == ']');
        takes("[\\d-a]", 1, b -> isDigit(b) || b == '-' || b == 'a');
        takes("[0-9-a]", 1, b -> isDigit(b) || b == '-' || b == 'a');
        broken("[a-\u001f]", 3);
        broken("[a-\u007f]", 3);
        broken("[!-\\b]", 4);
    }

    private static void range(String set, int x, int y, int place) {
        if (y < x) {
            broken(set, place);
        } else {
            takes(set, 1, b -> b >= x && b <= y);
        }
    }

    private static void numbers() {
        for (int n = 0; n <= 30; n++) {
            counted("a{" + n + "}", n, n, 0);
            counted("a{" + n + ",}", n, n, 2);
            for (int m = 0; m <= 30; m++) {
                int place = n > 20 ? 2 : ("a{" + n + ",").length();
                String pattern = "a{" + n + "," + m + "}";
                if (n > 20 || m > 20 || m < n) {
                    broken(pattern, place);
                    broken(pattern + "?", place);
                } else {
                    counted(pattern, n, n, 2 * (m - n));
                }
            }
        }
        for (String great : new String[] {"21", "99", "100", "200", "4294967296", "4294967297", "18446744073709551617"}) {
            broken("a{" + great + "}", 2);
            broken("a{" + great + ",}", 2);
            broken("a{1," + great + "}", 4);
            broken("a{20," + great + "}", 5);
            broken("a{" + great, 2);
        }
    }

    private static void counted(String pattern, int n, int least, int more) {
        if (n > 20) {
            broken(pattern, 2);
            return;
        }
        PatternTrier x = new PatternTrier();
        Check.due("weight of " + pattern, () -> Check.pattern(x, 0, pattern), least + more);
        Check.due("weight of " + pattern + "?", () -> Check.pattern(x, 0, pattern + "?"), least + more);
        Check.due("weight of " + pattern + "+", () -> Check.pattern(x, 0, pattern + "+"), least + more + 1);
    }

    private static void numbersThatBeginWithZero() {
        for (int k = 0; k < 10; k++) {
            broken("a{0" + k + "}", 3);
            broken("a{0" + k + ",}", 3);
            broken("a{0,0" + k + "}", 5);
            // 0 is below n already.
            broken("a{1,0" + k + "}", 4);
        }
    }

    /** The least that is enough, the most that is taken. */
    private static void roundsTaken() {
        for (int n = 0; n <= 20; n++) {
            for (int m = n; m <= 20; m++) {
                int least = n;
                int most = m;
                PatternTrier x = Check.trier("a{" + n + "," + m + "}", Check.times("a", 21));
                Check.due(n + " to " + m + " of 21", () -> x.match(0, 0, 1, 0), most);
                Check.due(n + " to " + m + " of 21, all", () -> x.match(0, 0, 0, 0), -1);
                Check.due(n + " to " + m + " of n", () -> x.match(0, 0, 1, 21 - least), 21);
                Check.due(n + " to " + m + " of m", () -> x.match(0, 0, 1, 21 - most), 21);
                int few = least == 0 ? 21 : -1;
                Check.due(n + " to " + m + " of too few", () -> x.match(0, 0, 1, Math.min(21, 22 - least)), few);
                Check.pattern(x, 0, "a{" + n + "," + m + "}?");
                Check.due(n + " to " + m + " of 21, less first", () -> x.match(0, 0, 1, 0), least);
                Check.pattern(x, 0, "a{" + n + ",}");
                Check.due(n + " or more of 21", () -> x.match(0, 0, 1, 0), 21);
                Check.pattern(x, 0, "a{" + n + "}");
                Check.due(n + " of 21", () -> x.match(0, 0, 1, 0), least);
            }
        }
    }
}
