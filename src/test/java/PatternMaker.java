import java.util.ArrayList;
import java.util.List;

/** Makes random patterns: each is told as a text, and for java.util.regex as another. */
final class PatternMaker {
    private long state;
    private int groups;
    private boolean onlyHere;

    PatternMaker(long seed) {
        state = seed;
    }

    int next(int bound) {
        state = state * 6364136223846793005L + 1442695040888963407L;
        return (int) ((state >>> 33) % bound);
    }

    PlainMatcher.Part make() {
        groups = 0;
        onlyHere = false;
        return ways(0, false, 3 + next(3));
    }

    /** A random pattern within rounds that can pass over any text, and one behind them. */
    PlainMatcher.Part makeRounds() {
        groups = 0;
        onlyHere = false;
        PlainMatcher.Part round = ways(1, false, 3);
        round.rows.add(List.of(set(".")));
        round.told = "(?:" + round.told + "|.)";
        round.weight += 3;
        PlainMatcher.Part rounds = new PlainMatcher.Part();
        rounds.kind = '*';
        rounds.inner = round;
        rounds.most = -1;
        rounds.told = round.told + "*";
        rounds.weight = round.weight + 1;
        PlainMatcher.Part behind = ways(1, false, 2);
        behind.told = "(?:" + behind.told + ")";
        behind.weight++;
        PlainMatcher.Part root = new PlainMatcher.Part();
        root.kind = ':';
        root.rows.add(List.of(rounds, behind));
        root.told = rounds.told + behind.told;
        root.weight = rounds.weight + behind.weight;
        return root;
    }

    /** Rounds within rounds that can take nothing, alone or looked ahead for at each byte. */
    PlainMatcher.Part makeNested() {
        groups = 0;
        onlyHere = true;
        PlainMatcher.Part nested = nestedWays(0);
        int kind = next(3);
        if (kind == 0) {
            return nested;
        }
        PlainMatcher.Part root = new PlainMatcher.Part();
        root.kind = ':';
        if (kind == 1) {
            nested.kind = '=';
            PlainMatcher.Part round = new PlainMatcher.Part();
            round.kind = ':';
            round.rows.add(List.of(nested, set(".")));
            round.told = "(?:(?=" + nested.told + ").)";
            round.weight = nested.weight + 3;
            root.rows.add(List.of(signed(round, "*")));
            root.told = round.told + "*";
            root.weight = round.weight + 1;
            return root;
        }
        root.rows.add(List.of(nested));
        root.rows.add(List.of(set(".")));
        nested.told = "(?:" + nested.told + ")";
        root.told = nested.told + "|.";
        root.weight = nested.weight + 3;
        return root;
    }

    private PlainMatcher.Part nestedWays(int level) {
        PlainMatcher.Part part = new PlainMatcher.Part();
        part.kind = ':';
        int rows = next(5) == 0 ? 2 : 1;
        for (int i = 0; i < rows; i++) {
            part.told += i == 0 ? "" : "|";
            part.weight += i == 0 ? 0 : 1;
            List<PlainMatcher.Part> row = new ArrayList<>();
            int length = 1 + next(3);
            for (int k = 0; k < length; k++) {
                PlainMatcher.Part item = level < 4 && next(3) == 0 ? nestedRounds(level) : maybeNothing();
                row.add(item);
                part.told += item.told;
                part.weight += item.weight;
            }
            part.rows.add(row);
        }
        return part;
    }

    private PlainMatcher.Part nestedRounds(int level) {
        boolean isGroup = groups < 9 && next(2) == 0;
        groups += isGroup ? 1 : 0;
        int number = groups;
        PlainMatcher.Part part = nestedWays(level + 1);
        part.kind = isGroup ? '(' : ':';
        part.number = number;
        part.told = (isGroup ? "(" : "(?:") + part.told + ")";
        part.weight += isGroup ? 2 : 1;
        return signed(part, new String[] {"*", "*", "*?", "+", "{2,}", "?"}[next(6)]);
    }

    private PlainMatcher.Part maybeNothing() {
        switch (next(9)) {
            case 0: return set("a");
            case 1: return set("b");
            case 2: return signed(set("a"), "?");
            case 3: return signed(set("b"), "?");
            case 4: return signed(set("a"), "??");
            case 5: return signed(set("a"), "*");
            case 6: return choice("ab", "");
            case 7: return choice("", "a");
            default: return choice("ba", "a", "");
        }
    }

    private static PlainMatcher.Part choice(String... rows) {
        PlainMatcher.Part part = new PlainMatcher.Part();
        part.kind = ':';
        part.told = "(?:" + String.join("|", rows) + ")";
        part.weight = rows.length;
        for (String bytes : rows) {
            List<PlainMatcher.Part> row = new ArrayList<>();
            for (int i = 0; i < bytes.length(); i++) {
                row.add(set(bytes.substring(i, i + 1)));
                part.weight++;
            }
            part.rows.add(row);
        }
        return part;
    }

    private static PlainMatcher.Part signed(PlainMatcher.Part inner, String sign) {
        PlainMatcher.Part part = new PlainMatcher.Part();
        part.kind = '*';
        part.inner = inner;
        part.least = sign.startsWith("+") ? 1 : sign.startsWith("{2") ? 2 : 0;
        part.most = sign.startsWith("?") ? 1 : -1;
        part.manner = sign.length() == 2 ? '?' : ' ';
        part.told = inner.told + sign;
        part.weight = (part.least + 1) * inner.weight + 1;
        return part;
    }

    int groups() {
        return groups;
    }

    /** Whether java.util.regex sees something in another way, such as rounds that take nothing. */
    boolean onlyHere() {
        return onlyHere;
    }

    private PlainMatcher.Part ways(int level, boolean within, int size) {
        PlainMatcher.Part part = new PlainMatcher.Part();
        part.kind = ':';
        StringBuilder told = new StringBuilder();
        StringBuilder told2 = new StringBuilder();
        int rows = next(3) == 0 ? 1 + next(3) : 1;
        for (int i = 0; i < rows; i++) {
            if (i > 0) {
                told.append('|');
                told2.append('|');
                part.weight++;
            }
            List<PlainMatcher.Part> row = new ArrayList<>();
            boolean empty = true;
            int length = next(size + 1);
            for (int k = 0; k < length; k++) {
                PlainMatcher.Part item = item(level, within);
                row.add(item);
                told.append(item.told);
                told2.append(item.told2);
                part.weight += item.weight;
                part.keeps |= item.keeps;
                empty &= item.canBeEmpty;
            }
            part.rows.add(row);
            part.canBeEmpty |= empty;
        }
        part.told = told.toString();
        part.told2 = told2.toString();
        return part;
    }

    private PlainMatcher.Part item(int level, boolean within) {
        int kind = next(20);
        if (kind < 6 && level < 4) {
            return rounds(bracket(level, within), within);
        }
        if (kind == 6 && level < 4 && !within) {
            return ahead(level);
        }
        if (kind == 7) {
            return place();
        }
        return rounds(set(), within);
    }

    private PlainMatcher.Part bracket(int level, boolean within) {
        boolean isGroup = groups < 9 && next(2) == 0;
        int number = 0;
        if (isGroup) {
            groups++;
            number = groups;
        }
        PlainMatcher.Part part = ways(level + 1, within, 3);
        part.kind = isGroup ? '(' : ':';
        part.number = number;
        part.weight += isGroup ? 2 : 1;
        part.told = (isGroup ? "(" : "(?:") + part.told + ")";
        part.told2 = (isGroup ? "(" : "(?:") + part.told2 + ")";
        return part;
    }

    private PlainMatcher.Part ahead(int level) {
        PlainMatcher.Part part = ways(level + 1, true, 3);
        part.kind = next(2) == 0 ? '=' : '!';
        part.weight++;
        part.told = "(?" + part.kind + part.told + ")";
        part.told2 = "(?" + part.kind + part.told2 + ")";
        part.keeps = true;
        part.canBeEmpty = true;
        return part;
    }

    private PlainMatcher.Part place() {
        PlainMatcher.Part part = new PlainMatcher.Part();
        part.kind = "^$bB".charAt(next(4));
        part.told = part.kind == 'b' || part.kind == 'B' ? "\\" + part.kind : "" + part.kind;
        part.told2 = part.kind == '$' ? "\\z" : part.told;
        part.weight = 1;
        part.canBeEmpty = true;
        return part;
    }

    private static final String[] SETS = {
        "a", "a", "b", "b", "c", ".", "[ab]", "[^a]", "[^b-d]", "\\w", "\\W", "\\d", "[a-c]", "[-a]",
        "[b-]", "\\-", "[\\]\\-]", "\\D", "\\s", "\\S", "[^\\w]", "[a\\d]", "-", "]", "}", "[^^]"
    };

    private static boolean holds(String told, int b) {
        boolean word = PlainMatcher.isWordByte(b);
        boolean digit = b >= '0' && b <= '9';
        boolean space = b == ' ' || b >= 9 && b <= 13;
        switch (told) {
            case ".": return b != 10;
            case "[ab]": return b == 'a' || b == 'b';
            case "[^a]": return b != 'a';
            case "[^b-d]": return b < 'b' || b > 'd';
            case "\\w": return word;
            case "\\W": case "[^\\w]": return !word;
            case "\\d": return digit;
            case "\\D": return !digit;
            case "\\s": return space;
            case "\\S": return !space;
            case "[a-c]": return b >= 'a' && b <= 'c';
            case "[-a]": return b == '-' || b == 'a';
            case "[b-]": return b == '-' || b == 'b';
            case "\\-": return b == '-';
            case "[\\]\\-]": return b == ']' || b == '-';
            case "[a\\d]": return b == 'a' || digit;
            case "[^^]": return b != '^';
            default: return b == told.charAt(0);
        }
    }

    private PlainMatcher.Part set() {
        return set(SETS[next(next(3) == 0 ? SETS.length : 5)]);
    }

    private static PlainMatcher.Part set(String told) {
        PlainMatcher.Part part = new PlainMatcher.Part();
        part.kind = 's';
        part.told = told;
        part.told2 = part.told.equals("}") || part.told.equals("]") ? "\\" + part.told : part.told;
        part.set = new boolean[256];
        for (int b = 0; b < 256; b++) {
            part.set[b] = holds(part.told, b);
        }
        part.weight = 1;
        return part;
    }

    private PlainMatcher.Part rounds(PlainMatcher.Part inner, boolean within) {
        int kind = next(12);
        if (kind > 5) {
            return inner;
        }
        PlainMatcher.Part part = new PlainMatcher.Part();
        part.kind = '*';
        part.inner = inner;
        part.least = kind == 1 ? 1 : kind < 3 ? 0 : next(3);
        part.most = kind == 2 ? 1 : kind < 2 || kind == 4 ? -1 : kind == 3 ? part.least : part.least + next(3);
        String sign = kind < 3 ? "*+?".substring(kind, kind + 1)
                : kind == 3 ? "{" + part.least + "}"
                : kind == 4 ? "{" + part.least + ",}" : "{" + part.least + "," + part.most + "}";
        int manner = next(4);
        part.manner = manner == 0 ? '?' : manner == 1 && !within && !inner.keeps ? '+' : ' ';
        part.keeps = inner.keeps || part.manner == '+';
        String tail = part.manner == ' ' ? "" : "" + part.manner;
        part.told = inner.told + sign + tail;
        part.told2 = inner.told2 + sign + tail;
        part.weight = part.least * inner.weight
                + (part.most < 0 ? inner.weight + 1 : (part.most - part.least) * (inner.weight + 1))
                + (part.manner == '+' ? 1 : 0);
        part.canBeEmpty = part.least == 0 || inner.canBeEmpty;
        // java.util.regex does not go back over the least rounds of a kept quantifier, either.
        onlyHere |= inner.canBeEmpty || part.manner == '+' && part.least > 1;
        return part;
    }

    String text(int bound) {
        StringBuilder text = new StringBuilder();
        int length = next(bound + 1);
        for (int i = 0; i < length; i++) {
            text.append("aaaabbbc-] 0\n}^".charAt(next(next(4) == 0 ? 15 : 7)));
        }
        return text.toString();
    }
}
