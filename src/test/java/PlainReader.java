import java.util.ArrayList;
import java.util.List;

/**
 * Reads a pattern by the words of "## Terms" alone, into the parts of the plain matcher. It stops
 * by throwing Broken with the PLACE.
 */
final class PlainReader {
    static final class Broken extends RuntimeException {
        private static final long serialVersionUID = 1L;
        final int place;

        Broken(int place) {
            this.place = place;
        }
    }

    // What see answers behind the last byte, and for a byte that no pattern has.
    private static final char END = '\uffff';
    private static final char WRONG = '\ufffe';

    private final String source;
    private int at = 0;
    private int groups = 0;
    private int open = 0;
    private int aheads = 0;

    private PlainReader(String source) {
        this.source = source;
    }

    /** The whole pattern as one part; its number is how many GROUPS it has. */
    static PlainMatcher.Part read(String source) {
        PlainReader reader = new PlainReader(source);
        PlainMatcher.Part root = reader.ways();
        if (reader.see(0) != END) {
            throw new Broken(reader.at);
        }
        root.told = source;
        root.number = reader.groups;
        return root;
    }

    private char see(int further) {
        int place = at + further;
        if (place >= source.length()) {
            return END;
        }
        char b = source.charAt(place);
        return place >= 200 || b < 32 || b > 126 ? WRONG : b;
    }

    private boolean sees(String signs) {
        return signs.indexOf(see(0)) >= 0;
    }

    private PlainMatcher.Part ways() {
        PlainMatcher.Part part = new PlainMatcher.Part();
        part.kind = ':';
        boolean more = true;
        while (more) {
            List<PlainMatcher.Part> row = new ArrayList<>();
            while (see(0) != END && !sees("|)")) {
                PlainMatcher.Part item = rounds(atom());
                part.weight += item.weight;
                part.keeps |= item.keeps;
                row.add(item);
            }
            part.rows.add(row);
            more = sees("|");
            at += more ? 1 : 0;
            part.weight += more ? 1 : 0;
        }
        return part;
    }

    private PlainMatcher.Part atom() {
        char sign = see(0);
        if (sign == WRONG || sees("*+?{")) {
            throw new Broken(at);
        }
        if (sign == '(') {
            return bracket();
        }
        PlainMatcher.Part part = new PlainMatcher.Part();
        part.weight = 1;
        part.kind = sign == '^' || sign == '$' ? sign : 's';
        part.set = new boolean[256];
        at++;
        if (sign == '[') {
            set(part.set);
        } else if (sign == '\\' && (see(0) == 'b' || see(0) == 'B')) {
            part.kind = see(0);
            at++;
        } else if (sign == '\\') {
            part.told = isClass(see(0)) ? "set" : "";
            escaped(part.set);
        } else {
            for (int b = 0; b < 256; b++) {
                part.set[b] = sign == '.' ? b != 10 : b == sign;
            }
        }
        part.told = sign == '[' || sign == '.' ? "set" : part.told;
        return part;
    }

    private static boolean isClass(char sign) {
        return "dwsDWS".indexOf(sign) >= 0;
    }

    /** What a byte behind a \ stands for is added. */
    private void escaped(boolean[] set) {
        char sign = see(0);
        boolean isName = sign != '_' && PlainMatcher.isWordByte(sign);
        if (sign == END || sign == WRONG || isName && !isClass(sign)) {
            throw new Broken(at);
        }
        for (int b = 0; b < 256; b++) {
            boolean isDigit = b >= '0' && b <= '9';
            boolean isSpace = b >= 9 && b <= 13 || b == 32;
            switch (sign) {
                case 'd': set[b] |= isDigit; break;
                case 'D': set[b] |= !isDigit; break;
                case 'w': set[b] |= PlainMatcher.isWordByte(b); break;
                case 'W': set[b] |= !PlainMatcher.isWordByte(b); break;
                case 's': set[b] |= isSpace; break;
                case 'S': set[b] |= !isSpace; break;
                default: set[b] |= b == sign; break;
            }
        }
        at++;
    }

    private void set(boolean[] set) {
        boolean others = sees("^");
        at += others ? 1 : 0;
        int members = 0;
        while (members == 0 || !sees("]")) {
            members++;
            char first = see(0);
            if (first == END || first == WRONG || first == ']') {
                throw new Broken(at);
            }
            if (first == '\\') {
                at++;
                escaped(set);
                continue;
            }
            char last = see(2);
            boolean isRange = see(1) == '-' && last != END && last != WRONG && last != '\\' && last != ']';
            if (isRange && last < first) {
                throw new Broken(at);
            }
            for (int b = first; b <= (isRange ? last : first); b++) {
                set[b] = true;
            }
            at += isRange ? 3 : 1;
        }
        at++;
        for (int b = 0; b < 256; b++) {
            set[b] ^= others;
        }
    }

    private PlainMatcher.Part bracket() {
        int first = at;
        if (open == 10) {
            throw new Broken(first);
        }
        char kind = '(';
        if (see(1) == '?') {
            kind = see(2);
            if (":=!".indexOf(kind) < 0) {
                throw new Broken(first + 2);
            }
        }
        boolean isAhead = kind == '=' || kind == '!';
        if (isAhead && aheads > 0 || kind == '(' && groups == 9) {
            throw new Broken(first);
        }
        at += kind == '(' ? 1 : 3;
        groups += kind == '(' ? 1 : 0;
        int number = groups;
        open++;
        aheads += isAhead ? 1 : 0;
        PlainMatcher.Part part = ways();
        aheads -= isAhead ? 1 : 0;
        open--;
        if (!sees(")")) {
            throw new Broken(at);
        }
        at++;
        part.kind = kind;
        part.number = number;
        part.weight += kind == '(' ? 2 : 1;
        part.keeps |= isAhead;
        return part;
    }

    private PlainMatcher.Part rounds(PlainMatcher.Part inner) {
        if (!sees("*+?{")) {
            return inner;
        }
        if ("^$bB=!".indexOf(inner.kind) >= 0) {
            throw new Broken(at);
        }
        PlainMatcher.Part part = new PlainMatcher.Part();
        part.kind = '*';
        part.inner = inner;
        part.least = sees("+") ? 1 : 0;
        part.most = sees("?") ? 1 : -1;
        boolean isCounted = sees("{");
        at++;
        if (isCounted) {
            counted(part);
        }
        part.manner = sees("?+") ? see(0) : ' ';
        if (part.manner == '+' && (inner.keeps || aheads > 0)) {
            throw new Broken(at);
        }
        at += part.manner == ' ' ? 0 : 1;
        part.keeps = inner.keeps || part.manner == '+';
        int further = part.most < 0 ? 1 : part.most - part.least;
        part.weight = part.least * inner.weight + further * (inner.weight + 1) + (part.manner == '+' ? 1 : 0);
        return part;
    }

    private void counted(PlainMatcher.Part part) {
        part.least = number();
        part.most = part.least;
        if (sees(",")) {
            at++;
            int first = at;
            part.most = sees("}") ? -1 : number();
            if (part.most >= 0 && part.most < part.least) {
                throw new Broken(first);
            }
        }
        if (!sees("}")) {
            throw new Broken(at);
        }
        at++;
    }

    private int number() {
        int first = at;
        if (sees("0")) {
            at++;
            return 0;
        }
        while (sees("0123456789")) {
            at++;
        }
        if (at == first) {
            throw new Broken(first);
        }
        String digits = source.substring(first, at);
        if (digits.length() > 2 || Integer.parseInt(digits) > 20) {
            throw new Broken(first);
        }
        return Integer.parseInt(digits);
    }
}
