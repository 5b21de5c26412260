import java.util.Arrays;
import java.util.NoSuchElementException;

/**
 * A trier of patterns. A pattern is read into a tree, the tree is laid out as a graph of steps,
 * and a walker goes through that graph over a text. All rows are made once and used again.
 */
public final class PatternTrier {
    private static final int NONE = -1;

    private static final int PATTERNS = 8;
    private static final int TEXTS = 4;
    private static final int TAPE_LIMIT = 1200;
    private static final int TEXT_LIMIT = 1000;
    private static final int SEARCH_LIMIT = 300;
    private static final int PATTERN_LIMIT = 200;
    private static final int WEIGHT_LIMIT = 400;
    private static final int OPEN_LIMIT = 10;
    private static final int GROUP_LIMIT = 9;
    private static final int ROUND_LIMIT = 20;
    private static final int MARKS = 2 * (GROUP_LIMIT + 1);

    // Kinds of parts and of steps: those up to NOT_AHEAD are both, those from FRONT on to
    // NOT_AHEAD take no byte, and no quantifier stands behind them.
    private static final int BYTE = 1;
    private static final int SET = 2;
    private static final int FRONT = 3;
    private static final int BACK = 4;
    private static final int EDGE = 5;
    private static final int NO_EDGE = 6;
    private static final int AHEAD = 7;
    private static final int NOT_AHEAD = 8;
    private static final int GROUP = 9;
    private static final int PLAIN = 10;
    private static final int ROUNDS = 11;
    private static final int ROW = 12;
    private static final int WAYS = 13;
    private static final int KEEP = 14;
    private static final int SPLIT = 15;
    private static final int ROUND = 16;
    private static final int MARK = 17;
    private static final int DONE = 18;

    // How the rounds of a quantifier are tried.
    private static final int MORE_FIRST = 0;
    private static final int LESS_FIRST = 1;
    private static final int KEPT = 2;

    private static final int SET_CELLS = 8;
    private static final int DIGITS = 0;
    private static final int WORDS = 8;
    private static final int SPACES = 16;
    private static final int LINE_END = 24;

    // Four sets of 256 bits each: 0-9, these and letters and _, 9 .. 13 and 32, and 10 alone.
    private static final int[] CLASSES = {
        0, 0x03FF0000, 0, 0, 0, 0, 0, 0,
        0, 0x03FF0000, 0x87FFFFFE, 0x07FFFFFE, 0, 0, 0, 0,
        0x00003E00, 0x00000001, 0, 0, 0, 0, 0, 0,
        0x00000400, 0, 0, 0, 0, 0, 0, 0
    };

    private final Program[] patterns;
    private final Bytes[] texts;
    private final int[] groups;
    private final Tree tree;
    private final Reader reader;
    private final Builder builder;
    private final Walker walker;
    private final Bytes output;
    private Bytes tape;
    private Bytes otherTape;
    private Found latest;
    private Found otherFound;
    private int brokenAt;

    public PatternTrier() {
        Program first = new Program();
        patterns = new Program[PATTERNS];
        patterns[0] = first;
        for (int p = 1; p < PATTERNS; p++) {
            patterns[p] = new Program();
        }
        texts = new Bytes[TEXTS];
        for (int t = 0; t < TEXTS; t++) {
            texts[t] = new Bytes(TEXT_LIMIT);
        }
        groups = new int[MARKS];
        Arrays.fill(groups, NONE);
        tape = new Bytes(TAPE_LIMIT);
        otherTape = new Bytes(TAPE_LIMIT);
        output = new Bytes(TEXT_LIMIT);
        tree = new Tree();
        reader = new Reader(tree, tape);
        builder = new Builder(tree, first);
        walker = new Walker(first, tape);
        latest = new Found();
        otherFound = new Found();
        brokenAt = NONE;
    }

    public int feed(int a, int b, int c, int d, int e) throws IndexOutOfBoundsException {
        if (tape.room() < 20) {
            throw new IndexOutOfBoundsException("the tape would be too long");
        }
        feedInt(a);
        feedInt(b);
        feedInt(c);
        feedInt(d);
        feedInt(e);
        return tape.size();
    }

    public int end(int n) throws IllegalArgumentException {
        if (n < 0 || n > tape.size()) {
            throw new IllegalArgumentException("n is not 0 .. the length of the tape");
        }
        tape.cut(n);
        return n;
    }

    public int pattern(int p)
            throws IllegalArgumentException, UnsupportedOperationException, IndexOutOfBoundsException {
        Bytes source = takeTape();
        brokenAt = NONE;
        Program program = programAt(p);
        brokenAt = reader.read(source);
        if (brokenAt != NONE) {
            throw new UnsupportedOperationException("the pattern is broken");
        }
        if (tree.weightOf(reader.root()) > WEIGHT_LIMIT) {
            throw new IndexOutOfBoundsException("the pattern is too heavy");
        }
        builder.build(program, reader.root(), reader.groups());
        return program.weight();
    }

    public int text(int t) throws IllegalArgumentException, IndexOutOfBoundsException {
        Bytes source = takeTape();
        Bytes target = textAt(t);
        if (source.size() > TEXT_LIMIT) {
            throw new IndexOutOfBoundsException("the text is too long");
        }
        target.copy(source);
        return target.size();
    }

    public int match(int p, int t, int how, int a)
            throws IllegalArgumentException, NoSuchElementException, IndexOutOfBoundsException {
        Program program = programAt(p);
        Bytes subject = textAt(t);
        if (how < 0 || how > 2) {
            throw new IllegalArgumentException("how is not 0 .. 2");
        }
        needPattern(program);
        if (how != 0 && (a < 0 || a > subject.size())) {
            throw new IndexOutOfBoundsException("a is no place of the text");
        }
        int first = how == 0 ? 0 : a;
        int last = how == 2 ? subject.size() : first;
        walker.prepare(program, subject, how == 0);
        if (!walker.tryPlaces(first, last)) {
            return NONE;
        }
        walker.copyMarks(groups);
        return walker.mark(1);
    }

    public int group(int i, int part) throws IllegalArgumentException {
        if (i < 0 || i > GROUP_LIMIT) {
            throw new IllegalArgumentException("i is not 0 .. 9");
        }
        needPart(part);
        int mark = 2 * i + part;
        return mark >= 0 && mark < groups.length ? groups[mark] : NONE;
    }

    public int find(int p, int t)
            throws IllegalArgumentException, NoSuchElementException, IndexOutOfBoundsException {
        Program program = programAt(p);
        Bytes subject = textAt(t);
        needPattern(program);
        needShort(subject);
        latest.clear();
        walker.prepare(program, subject, false);
        int from = 0;
        for (int k = 0; k <= SEARCH_LIMIT && walker.tryPlaces(from, subject.size()); k++) {
            latest.add(walker.mark(0), walker.mark(1));
            from = walker.placeBehind();
        }
        return latest.amount();
    }

    public int found(int i, int part) throws IllegalArgumentException, IndexOutOfBoundsException {
        needPart(part);
        if (i < 0 || i >= latest.amount()) {
            throw new IndexOutOfBoundsException("there is no such match");
        }
        return latest.bound(i, part);
    }

    public int replace(int p, int t)
            throws IllegalArgumentException, NoSuchElementException, IllegalStateException,
            UnsupportedOperationException, IndexOutOfBoundsException {
        Bytes model = takeTape();
        brokenAt = NONE;
        Program program = programAt(p);
        Bytes subject = textAt(t);
        needPattern(program);
        needShort(subject);
        brokenAt = wrongPlace(model);
        if (brokenAt != NONE) {
            throw new UnsupportedOperationException("the replacement is broken");
        }
        if (!writeReplaced(program, subject, model)) {
            throw new IllegalStateException("the text would be too long");
        }
        swapFound();
        subject.copy(output);
        return subject.size();
    }

    public int span(int p, int t, int in)
            throws IllegalArgumentException, NoSuchElementException, ClassCastException {
        Program program = programAt(p);
        Bytes subject = textAt(t);
        if (in < 0 || in > 1) {
            throw new IllegalArgumentException("in is not 0 or 1");
        }
        needPattern(program);
        if (program.onlySet() == NONE) {
            throw new ClassCastException("the pattern is not one set");
        }
        int length = 0;
        while (length < subject.size()
                && program.holds(program.onlySet(), subject.at(length)) == (in == 1)) {
            length++;
        }
        return length;
    }

    public long word(int t, int i) throws IllegalArgumentException, IndexOutOfBoundsException {
        Bytes subject = textAt(t);
        if (i < 0 || i >= subject.size()) {
            throw new IndexOutOfBoundsException("i is no byte of the text");
        }
        long word = 0;
        for (int k = 0; k < 8; k++) {
            word = word << 8 | Math.max(0, subject.at(i + k));
        }
        return word;
    }

    public int count(int what) throws IllegalArgumentException {
        if (what == 0) {
            return tape.size();
        }
        if (what == 1) {
            return brokenAt;
        }
        if (what == 2) {
            return latest.amount();
        }
        if (what >= 10 && what < 10 + PATTERNS) {
            return programAt(what - 10).weight();
        }
        if (what >= 20 && what < 20 + TEXTS) {
            return textAt(what - 20).size();
        }
        if (what >= 30 && what < 30 + PATTERNS) {
            return programAt(what - 30).groups();
        }
        throw new IllegalArgumentException("what is none of those that are counted");
    }

    private void feedInt(int four) {
        for (int shift = 24; shift >= 0; shift -= 8) {
            tape.add(four >>> shift);
        }
    }

    /** The bytes of the tape; it is empty from here on, whatever the call comes to. */
    private Bytes takeTape() {
        Bytes taken = tape;
        tape = otherTape;
        otherTape = taken;
        tape.cut(0);
        return taken;
    }

    private void swapFound() {
        Found before = latest;
        latest = otherFound;
        otherFound = before;
    }

    private Program programAt(int p) {
        if (p < 0 || p >= patterns.length || patterns[p] == null) {
            throw new IllegalArgumentException("p is not 0 .. 7");
        }
        return patterns[p];
    }

    private Bytes textAt(int t) {
        if (t < 0 || t >= texts.length || texts[t] == null) {
            throw new IllegalArgumentException("t is not 0 .. 3");
        }
        return texts[t];
    }

    private static void needPart(int part) {
        if (part < 0 || part > 1) {
            throw new IllegalArgumentException("part is not 0 or 1");
        }
    }

    private static void needPattern(Program program) {
        if (program.weight() == NONE) {
            throw new NoSuchElementException("the pattern is none");
        }
    }

    private static void needShort(Bytes subject) {
        if (subject.size() > SEARCH_LIMIT) {
            throw new IndexOutOfBoundsException("the text has more than 300 bytes");
        }
    }

    /** The place of the first byte of a replacement that can't stand behind its $, or NONE. */
    private static int wrongPlace(Bytes model) {
        for (int i = 0; i < model.size(); i++) {
            if (model.at(i) == '$') {
                i++;
                int sign = model.at(i);
                if (sign != '$' && !isDigit(sign)) {
                    return i;
                }
            }
        }
        return NONE;
    }

    /** Writes the replaced text to the output, the matches to the spare found; false: too long. */
    private boolean writeReplaced(Program program, Bytes subject, Bytes model) {
        otherFound.clear();
        output.cut(0);
        walker.prepare(program, subject, false);
        boolean fits = true;
        int copied = 0;
        int from = 0;
        for (int k = 0; k <= SEARCH_LIMIT && fits && walker.tryPlaces(from, subject.size()); k++) {
            otherFound.add(walker.mark(0), walker.mark(1));
            fits = output.addPart(subject, copied, walker.mark(0)) && writeModel(subject, model);
            copied = walker.mark(1);
            from = walker.placeBehind();
        }
        return fits && output.addPart(subject, copied, subject.size());
    }

    private boolean writeModel(Bytes subject, Bytes model) {
        boolean fits = true;
        for (int i = 0; i < model.size() && fits; i++) {
            int sign = model.at(i);
            if (sign != '$') {
                fits = output.add(sign);
            } else {
                i++;
                fits = writeSign(subject, model.at(i));
            }
        }
        return fits;
    }

    private boolean writeSign(Bytes subject, int sign) {
        if (!isDigit(sign)) {
            return output.add(sign);
        }
        int mark = 2 * (sign - '0');
        return output.addPart(subject, walker.mark(mark), walker.mark(mark + 1));
    }

    private static boolean isDigit(int b) {
        return b >= '0' && b <= '9';
    }

    private static boolean isLetter(int b) {
        return b >= 'a' && b <= 'z' || b >= 'A' && b <= 'Z';
    }

    private static int cell(int[] row, int index) {
        return index >= 0 && index < row.length ? row[index] : 0;
    }

    private static void put(int[] row, int index, int value) {
        if (index >= 0 && index < row.length) {
            row[index] = value;
        }
    }

    /** A row of bytes with a limit: the tape, a text, or what a replacement writes. */
    private static final class Bytes {
        private final byte[] row;
        private int size;

        Bytes(int limit) {
            row = new byte[Math.max(0, limit)];
            size = 0;
        }

        int size() {
            return size;
        }

        int room() {
            return row.length - size;
        }

        int at(int place) {
            return place >= 0 && place < size && place < row.length ? row[place] & 255 : NONE;
        }

        boolean add(int b) {
            if (size < 0 || size >= row.length) {
                return false;
            }
            row[size] = (byte) b;
            size++;
            return true;
        }

        /** Adds the bytes of another row between two places, none if the first is NONE. */
        boolean addPart(Bytes from, int begin, int end) {
            int length = end - begin;
            if (begin < 0 || length <= 0 || end > from.size) {
                return true;
            }
            if (length > room()) {
                return false;
            }
            System.arraycopy(from.row, begin, row, size, length);
            size += length;
            return true;
        }

        void cut(int length) {
            if (length >= 0 && length <= size) {
                size = length;
            }
        }

        void copy(Bytes from) {
            size = 0;
            addPart(from, 0, from.size);
        }
    }

    /** The begins and ends of all matches, in their order. */
    private static final class Found {
        private final int[] bounds;
        private int amount;

        Found() {
            bounds = new int[2 * (SEARCH_LIMIT + 1)];
            amount = 0;
        }

        void clear() {
            amount = 0;
        }

        int amount() {
            return amount;
        }

        void add(int begin, int end) {
            put(bounds, 2 * amount, begin);
            put(bounds, 2 * amount + 1, end);
            amount++;
        }

        int bound(int i, int part) {
            return cell(bounds, 2 * i + part);
        }
    }

    /** Sets of bytes, 256 bits each. */
    private static final class Sets {
        private final int[] cells;
        private int amount;

        Sets() {
            cells = new int[PATTERN_LIMIT * SET_CELLS];
            amount = 0;
        }

        void clear() {
            amount = 0;
        }

        int open() {
            int set = amount;
            for (int k = 0; k < SET_CELLS; k++) {
                put(cells, set * SET_CELLS + k, 0);
            }
            amount++;
            return set;
        }

        void addRange(int set, int first, int last) {
            for (int b = first; b <= last && b < 256; b++) {
                int index = set * SET_CELLS + (b >>> 5);
                put(cells, index, cell(cells, index) | 1 << (b & 31));
            }
        }

        void addClass(int set, int which, boolean others) {
            for (int k = 0; k < SET_CELLS; k++) {
                int index = set * SET_CELLS + k;
                int bits = cell(CLASSES, which + k);
                put(cells, index, cell(cells, index) | (others ? ~bits : bits));
            }
        }

        void turnRound(int set) {
            for (int k = 0; k < SET_CELLS; k++) {
                int index = set * SET_CELLS + k;
                put(cells, index, ~cell(cells, index));
            }
        }

        boolean holds(int set, int b) {
            return b >= 0 && (cell(cells, set * SET_CELLS + (b >>> 5)) >>> (b & 31) & 1) != 0;
        }

        void copy(Sets from) {
            int length = Math.min(Math.max(0, from.amount * SET_CELLS), cells.length);
            System.arraycopy(from.cells, 0, cells, 0, length);
            amount = from.amount;
        }
    }

    /**
     * The parts of a pattern. Part 0 is none; a part knows the one before it and the last one
     * within it, as the program is laid out from its end.
     */
    private static final class Tree {
        // A bracket pair makes three parts of two bytes, no byte makes more.
        private static final int PARTS = 2 * PATTERN_LIMIT + 8;

        private final int[] kind;
        private final int[] value;
        private final int[] inner;
        private final int[] before;
        private final int[] least;
        private final int[] most;
        private final int[] weight;
        private final Sets sets;
        private int size;

        Tree() {
            kind = new int[PARTS];
            value = new int[PARTS];
            inner = new int[PARTS];
            before = new int[PARTS];
            least = new int[PARTS];
            most = new int[PARTS];
            weight = new int[PARTS];
            sets = new Sets();
            size = 1;
        }

        void clear() {
            size = 1;
            sets.clear();
        }

        int add(int newKind, int newValue, int newInner, int newWeight) {
            if (size < 1 || size >= PARTS) {
                return 0;
            }
            int part = size;
            size++;
            put(kind, part, newKind);
            put(value, part, newValue);
            put(inner, part, newInner);
            put(before, part, 0);
            put(weight, part, Math.min(newWeight, WEIGHT_LIMIT + 1));
            return part;
        }

        /** Rounds of a part; most is NONE where there is no bound. */
        int addRounds(int part, int newLeast, int newMost, int manner) {
            int once = weightOf(part);
            int all = newLeast * once;
            all += newMost == NONE ? once + 1 : (newMost - newLeast) * (once + 1);
            int rounds = add(ROUNDS, manner, part, manner == KEPT ? all + 1 : all);
            put(least, rounds, newLeast);
            put(most, rounds, newMost);
            return rounds;
        }

        void chain(int part, int previous) {
            put(before, part, previous);
        }

        int kindOf(int part) {
            return cell(kind, part);
        }

        int valueOf(int part) {
            return cell(value, part);
        }

        int innerOf(int part) {
            return cell(inner, part);
        }

        int beforeOf(int part) {
            return cell(before, part);
        }

        int leastOf(int part) {
            return cell(least, part);
        }

        int mostOf(int part) {
            return cell(most, part);
        }

        int weightOf(int part) {
            return cell(weight, part);
        }

        Sets sets() {
            return sets;
        }

        /** The set that is alone in a pattern, or NONE. */
        int onlySet(int root) {
            int row = innerOf(root);
            int part = innerOf(row);
            boolean alone = part != 0 && beforeOf(row) == 0 && beforeOf(part) == 0;
            return alone && kindOf(part) == SET ? valueOf(part) : NONE;
        }
    }

    /** Reads a pattern into the tree, up to the first byte that can't stand where it stands. */
    private static final class Reader {
        private static final int END = -1;
        private static final int WRONG = -2;

        private final Tree tree;
        private Bytes source;
        private int at;
        private int brokenAt;
        private int root;
        private int groups;
        private int openAheads;
        // How many lookaheads and kept rounds were read; if more behind a part than ahead of it,
        // one stands within it.
        private int kept;

        Reader(Tree tree, Bytes source) {
            this.tree = tree;
            this.source = source;
            brokenAt = NONE;
        }

        /** The place where the pattern is broken, or NONE. */
        int read(Bytes newSource) {
            source = newSource;
            tree.clear();
            at = 0;
            brokenAt = NONE;
            groups = 0;
            openAheads = 0;
            kept = 0;
            root = readWays(0);
            if (see(0) != END) {
                breakAt(at);
            }
            return brokenAt;
        }

        int root() {
            return root;
        }

        int groups() {
            return groups;
        }

        private void breakAt(int place) {
            if (brokenAt == NONE) {
                brokenAt = place;
            }
        }

        private boolean isBroken() {
            return brokenAt != NONE;
        }

        private int see(int further) {
            int place = at + further;
            if (place >= source.size()) {
                return END;
            }
            int b = source.at(place);
            return place >= PATTERN_LIMIT || b < 32 || b > 126 ? WRONG : b;
        }

        private int readWays(int level) {
            int last = readRow(level);
            int weight = tree.weightOf(last);
            for (int k = 0; k < PATTERN_LIMIT && !isBroken() && see(0) == '|'; k++) {
                at++;
                int row = readRow(level);
                tree.chain(row, last);
                weight += 1 + tree.weightOf(row);
                last = row;
            }
            return tree.add(WAYS, 0, last, weight);
        }

        private int readRow(int level) {
            int last = 0;
            int weight = 0;
            for (int k = 0; k < PATTERN_LIMIT + 1 && !isBroken() && !isRowEnd(see(0)); k++) {
                int part = readPart(level);
                tree.chain(part, last);
                weight += tree.weightOf(part);
                last = part;
            }
            return tree.add(ROW, 0, last, weight);
        }

        private static boolean isRowEnd(int sign) {
            return sign == END || sign == '|' || sign == ')';
        }

        private int readPart(int level) {
            int keptBefore = kept;
            int atom = readAtom(level);
            if (isBroken() || !isQuantifier(see(0))) {
                return atom;
            }
            int kind = tree.kindOf(atom);
            if (kind >= FRONT && kind <= NOT_AHEAD) {
                breakAt(at);
                return atom;
            }
            return readRounds(atom, kept != keptBefore || openAheads > 0);
        }

        private static boolean isQuantifier(int sign) {
            return sign == '*' || sign == '+' || sign == '?' || sign == '{';
        }

        private int readAtom(int level) {
            int sign = see(0);
            switch (sign) {
                case '(':
                    return readBracket(level);
                case '[':
                    return readSet();
                case '\\':
                    return readEscape();
                case '.':
                    at++;
                    return addClass(LINE_END, true);
                case '^':
                    at++;
                    return tree.add(FRONT, 0, 0, 1);
                case '$':
                    at++;
                    return tree.add(BACK, 0, 0, 1);
                default:
                    break;
            }
            if (sign < 0 || isQuantifier(sign)) {
                breakAt(at);
                return 0;
            }
            at++;
            return tree.add(BYTE, sign, 0, 1);
        }

        private int readEscape() {
            int sign = see(1);
            if (sign < 0) {
                breakAt(at + 1);
                return 0;
            }
            at += 2;
            if (sign == 'b' || sign == 'B') {
                return tree.add(sign == 'b' ? EDGE : NO_EDGE, 0, 0, 1);
            }
            int which = classOf(sign);
            if (which != NONE) {
                return addClass(which, sign < 'a');
            }
            if (isLetter(sign) || isDigit(sign)) {
                breakAt(at - 1);
            }
            return tree.add(BYTE, sign, 0, 1);
        }

        private int addClass(int which, boolean others) {
            int set = tree.sets().open();
            tree.sets().addClass(set, which, others);
            return tree.add(SET, set, 0, 1);
        }

        private static int classOf(int sign) {
            switch (sign) {
                case 'd':
                case 'D':
                    return DIGITS;
                case 'w':
                case 'W':
                    return WORDS;
                case 's':
                case 'S':
                    return SPACES;
                default:
                    return NONE;
            }
        }

        private int readSet() {
            int set = tree.sets().open();
            at++;
            boolean others = see(0) == '^';
            if (others) {
                at++;
            }
            if (see(0) == ']') {
                breakAt(at);
            }
            for (int k = 0; k < PATTERN_LIMIT + 1 && !isBroken() && see(0) != ']'; k++) {
                readMember(set);
            }
            at++;
            if (others) {
                tree.sets().turnRound(set);
            }
            return tree.add(SET, set, 0, 1);
        }

        private void readMember(int set) {
            int first = see(0);
            if (first < 0) {
                breakAt(at);
            } else if (first == '\\') {
                readEscapedMember(set, see(1));
            } else if (see(1) == '-' && see(2) >= 0 && see(2) != '\\' && see(2) != ']') {
                if (see(2) < first) {
                    breakAt(at);
                }
                tree.sets().addRange(set, first, see(2));
                at += 3;
            } else {
                tree.sets().addRange(set, first, first);
                at++;
            }
        }

        private void readEscapedMember(int set, int sign) {
            int which = classOf(sign);
            if (which != NONE) {
                tree.sets().addClass(set, which, sign < 'a');
            } else if (sign < 0 || isLetter(sign) || isDigit(sign)) {
                breakAt(at + 1);
            } else {
                tree.sets().addRange(set, sign, sign);
            }
            at += 2;
        }

        private int readBracket(int level) {
            int kind = bracketKind();
            boolean isAhead = kind == AHEAD || kind == NOT_AHEAD;
            boolean tooMany = kind == GROUP && groups >= GROUP_LIMIT;
            if (level >= OPEN_LIMIT || tooMany || isAhead && openAheads > 0) {
                breakAt(at);
            } else if (kind == NONE) {
                breakAt(at + 2);
            }
            if (isBroken()) {
                return 0;
            }
            at += kind == GROUP ? 1 : 3;
            groups += kind == GROUP ? 1 : 0;
            int number = groups;
            kept += isAhead ? 1 : 0;
            openAheads += isAhead ? 1 : 0;
            int ways = readWays(level + 1);
            openAheads -= isAhead ? 1 : 0;
            if (see(0) != ')') {
                breakAt(at);
            }
            at++;
            return tree.add(kind, number, ways, tree.weightOf(ways) + (kind == GROUP ? 2 : 1));
        }

        private int bracketKind() {
            if (see(1) != '?') {
                return GROUP;
            }
            switch (see(2)) {
                case ':':
                    return PLAIN;
                case '=':
                    return AHEAD;
                case '!':
                    return NOT_AHEAD;
                default:
                    return NONE;
            }
        }

        private int readRounds(int atom, boolean mustNotKeep) {
            int sign = see(0);
            at++;
            int least = sign == '+' ? 1 : 0;
            int most = sign == '?' ? 1 : NONE;
            if (sign == '{') {
                least = readNumber(0);
                most = readMost(least);
            }
            if (isBroken()) {
                return atom;
            }
            int manner = MORE_FIRST;
            if (see(0) == '?') {
                manner = LESS_FIRST;
                at++;
            } else if (see(0) == '+') {
                manner = KEPT;
                kept++;
                if (mustNotKeep) {
                    breakAt(at);
                }
                at++;
            }
            return tree.addRounds(atom, least, most, manner);
        }

        /** Reads what follows the first number of a { }, its last byte too. */
        private int readMost(int least) {
            int most = least;
            if (see(0) == ',') {
                at++;
                most = see(0) == '}' ? NONE : readNumber(least);
            }
            if (see(0) != '}') {
                breakAt(at);
            }
            at++;
            return most;
        }

        private int readNumber(int atLeast) {
            int first = at;
            if (!isDigit(see(0))) {
                breakAt(at);
                return 0;
            }
            int number = see(0) - '0';
            at++;
            // No digit may follow a 0 that stands first, so it is left to whoever reads on.
            for (int k = 0; k < PATTERN_LIMIT && number > 0 && isDigit(see(0)); k++) {
                number = Math.min(number * 10 + see(0) - '0', ROUND_LIMIT + 1);
                at++;
            }
            if (number > ROUND_LIMIT || number < atLeast) {
                breakAt(first);
            }
            return number;
        }
    }

    /**
     * The steps of a pattern. Step 0 is its end. A step that can fail after others were tried has
     * a slot, by which the walker remembers where it failed.
     */
    private static final class Program {
        // Rounds without bound make the most steps for their weight: a* makes 3 and weighs 2.
        private static final int STEPS = WEIGHT_LIMIT * 3 / 2 + 8;

        private final int[] kind;
        private final int[] value;
        private final int[] next;
        private final int[] other;
        private final int[] depth;
        private final int[] slot;
        private final Sets sets;
        private int size;
        private int slots;
        private int entry;
        private int weight;
        private int groups;
        private int onlySet;

        Program() {
            kind = new int[STEPS];
            value = new int[STEPS];
            next = new int[STEPS];
            other = new int[STEPS];
            depth = new int[STEPS];
            slot = new int[STEPS];
            sets = new Sets();
            weight = NONE;
            groups = NONE;
            onlySet = NONE;
        }

        void clear() {
            size = 0;
            slots = 0;
            add(DONE, 0, 0, 0);
        }

        int add(int newKind, int newValue, int newNext, int newDepth) {
            if (size < 0 || size >= STEPS) {
                return 0;
            }
            int step = size;
            size++;
            put(kind, step, newKind);
            put(value, step, newValue);
            put(next, step, newNext);
            put(other, step, 0);
            put(depth, step, newDepth);
            put(slot, step, slots);
            if (newKind == SPLIT || newKind == KEEP || newKind == AHEAD || newKind == NOT_AHEAD) {
                slots++;
            }
            return step;
        }

        void branch(int step, int first, int second) {
            put(next, step, first);
            put(other, step, second);
        }

        void finish(int newEntry, Tree tree, int root, int newGroups) {
            entry = newEntry;
            sets.copy(tree.sets());
            weight = tree.weightOf(root);
            groups = newGroups;
            onlySet = tree.onlySet(root);
        }

        boolean holds(int set, int b) {
            return sets.holds(set, b);
        }

        int kindOf(int step) {
            return step >= 0 && step < STEPS ? kind[step] : 0;
        }

        int valueOf(int step) {
            return step >= 0 && step < STEPS ? value[step] : 0;
        }

        int nextOf(int step) {
            return step >= 0 && step < STEPS ? next[step] : 0;
        }

        int otherOf(int step) {
            return step >= 0 && step < STEPS ? other[step] : 0;
        }

        int depthOf(int step) {
            return step >= 0 && step < STEPS ? depth[step] : 0;
        }

        int slotOf(int step) {
            return step >= 0 && step < STEPS ? slot[step] : 0;
        }

        int slots() {
            return slots;
        }

        int entry() {
            return entry;
        }

        int weight() {
            return weight;
        }

        int groups() {
            return groups;
        }

        int onlySet() {
            return onlySet;
        }
    }

    /**
     * Lays out the tree as a program, from the end to the front: each part is built with the step
     * that follows it. The depth is how many rounds without bound a step stands within.
     */
    private static final class Builder {
        private final Tree tree;
        private Program program;

        Builder(Tree tree, Program program) {
            this.tree = tree;
            this.program = program;
        }

        void build(Program target, int root, int groups) {
            program = target;
            program.clear();
            int entry = buildWays(root, 0, 0, 0);
            program.finish(entry, tree, root, groups);
        }

        private int buildWays(int ways, int next, int depth, int level) {
            int row = tree.innerOf(ways);
            int entry = buildRow(row, next, depth, level);
            for (int k = 0; k < PATTERN_LIMIT && tree.beforeOf(row) != 0; k++) {
                row = tree.beforeOf(row);
                int split = program.add(SPLIT, 0, 0, depth);
                program.branch(split, buildRow(row, next, depth, level), entry);
                entry = split;
            }
            return entry;
        }

        private int buildRow(int row, int next, int depth, int level) {
            int entry = next;
            int part = tree.innerOf(row);
            for (int k = 0; k < PATTERN_LIMIT && part != 0; k++) {
                entry = buildPart(part, entry, depth, level);
                part = tree.beforeOf(part);
            }
            return entry;
        }

        private int buildPart(int part, int next, int depth, int level) {
            if (level > OPEN_LIMIT) {
                return next;
            }
            int kind = tree.kindOf(part);
            switch (kind) {
                case ROUNDS:
                    return buildRounds(part, next, depth, level);
                case GROUP:
                    return buildGroup(part, next, depth, level);
                case PLAIN:
                    return buildWays(tree.innerOf(part), next, depth, level + 1);
                case AHEAD:
                case NOT_AHEAD:
                    return buildAhead(part, next, depth, level);
                default:
                    return program.add(kind, tree.valueOf(part), next, depth);
            }
        }

        private int buildGroup(int part, int next, int depth, int level) {
            int mark = 2 * tree.valueOf(part);
            int close = program.add(MARK, mark + 1, next, depth);
            int ways = buildWays(tree.innerOf(part), close, depth, level + 1);
            return program.add(MARK, mark, ways, depth);
        }

        private int buildAhead(int part, int next, int depth, int level) {
            int ahead = program.add(tree.kindOf(part), 0, next, depth);
            program.branch(ahead, next, buildWays(tree.innerOf(part), 0, 0, level + 1));
            return ahead;
        }

        private int buildRounds(int part, int next, int depth, int level) {
            if (tree.valueOf(part) != KEPT) {
                return buildLeast(part, buildMore(part, next, depth, level), depth, level);
            }
            int keep = program.add(KEEP, 0, next, depth);
            int first = buildLeast(part, buildMore(part, 0, 0, level), 0, level);
            program.branch(keep, next, first);
            return keep;
        }

        private int buildLeast(int part, int next, int depth, int level) {
            int entry = next;
            for (int k = 0; k < tree.leastOf(part); k++) {
                entry = buildPart(tree.innerOf(part), entry, depth, level);
            }
            return entry;
        }

        /** The rounds beyond the least. */
        private int buildMore(int part, int next, int depth, int level) {
            int inner = tree.innerOf(part);
            boolean lessFirst = tree.valueOf(part) == LESS_FIRST;
            if (tree.mostOf(part) == NONE) {
                int loop = program.add(SPLIT, 0, 0, depth);
                int round = program.add(ROUND, depth + 1, loop, depth);
                branch(loop, buildPart(inner, round, depth + 1, level), next, lessFirst);
                return loop;
            }
            int entry = next;
            for (int k = tree.leastOf(part); k < tree.mostOf(part); k++) {
                int split = program.add(SPLIT, 0, 0, depth);
                branch(split, buildPart(inner, entry, depth, level), next, lessFirst);
                entry = split;
            }
            return entry;
        }

        private void branch(int split, int more, int less, boolean lessFirst) {
            program.branch(split, lessFirst ? less : more, lessFirst ? more : less);
        }
    }

    /** What the walker has to come back to, last first; it grows when a walk needs it. */
    private static final class Pile {
        private static final int START = 1 << 11;
        // No walk comes so high: as each round without bound takes a byte, a step is passed twice
        // at a place at most, on the way out of the rounds that took one and on the way into the
        // next, and leaves one entry; 400 of weight, walks apart too, leave 2 * 400 * 1001.
        private static final int LIMIT = 1 << 20;
        private static final int CHOICE = 0;
        private static final int FAILED = 1;
        private static final int UNDO = 2;

        private int[] entries;
        private int size;

        Pile() {
            entries = new int[START];
            size = 0;
        }

        static int pack(int kind, int step, int taken, int place) {
            return kind << 24 | step << 14 | taken << 10 | place;
        }

        static int kindOf(int entry) {
            return entry >>> 24;
        }

        static int stepOf(int entry) {
            return entry >>> 14 & 1023;
        }

        static int takenOf(int entry) {
            return entry >>> 10 & 15;
        }

        static int placeOf(int entry) {
            return entry & 1023;
        }

        int size() {
            return size;
        }

        void clear() {
            size = 0;
        }

        void push(int entry) {
            if (size >= entries.length && entries.length < LIMIT) {
                entries = Arrays.copyOf(entries, entries.length * 2);
            }
            if (size >= 0 && size < entries.length) {
                entries[size] = entry;
                size++;
            }
        }

        int pop() {
            if (size <= 0) {
                return 0;
            }
            size--;
            return cell(entries, size);
        }

        /**
         * Forgets the ways above a height, but not how the marks were there: the lowest entry of a
         * mark tells it. The others go, as a walk apart over a long text leaves many of them.
         */
        void dropWays(int height) {
            int kept = height;
            int seen = 0;
            for (int k = height; k < size; k++) {
                int entry = cell(entries, k);
                int index = stepOf(entry);
                if (kindOf(entry) == UNDO && (seen >>> index & 1) == 0) {
                    seen |= 1 << index;
                    put(entries, kept, entry);
                    kept++;
                }
            }
            size = Math.min(size, Math.max(0, kept));
        }
    }

    /**
     * Where steps have failed: for each slot and place four bits with one more than the most rounds
     * that had taken a byte then. With fewer the step fails there too, as each way that is open
     * with fewer is open with more.
     */
    private static final class Failures {
        private static final int START = 1 << 10;
        private static final int LIMIT = 1 << 16;

        private int[] cells;

        Failures() {
            cells = new int[START];
        }

        void clear(int amount) {
            int used = Math.min(LIMIT, Math.max(0, (amount >>> 3) + 1));
            if (used <= cells.length) {
                Arrays.fill(cells, 0, used, 0);
                return;
            }
            int length = cells.length;
            for (int k = 0; k < 20 && length < used; k++) {
                length *= 2;
            }
            cells = new int[length];
        }

        boolean has(int key, int taken) {
            return at(key) > taken;
        }

        void add(int key, int taken) {
            if (at(key) <= taken) {
                int shift = 4 * (key & 7);
                int others = cell(cells, key >>> 3) & ~(15 << shift);
                put(cells, key >>> 3, others | (taken + 1 & 15) << shift);
            }
        }

        private int at(int key) {
            return cell(cells, key >>> 3) >>> 4 * (key & 7) & 15;
        }
    }

    /**
     * Walks through a program over a text, the first way first. As nothing ahead depends on the
     * marks, a step that failed once at a place fails there again and is not tried again.
     */
    private static final class Walker {
        private static final int STEP_LIMIT = 1000000000;

        private final Pile pile;
        private final Failures failures;
        private final int[] marks;
        private Program program;
        private Bytes text;
        private boolean toEnd;
        private int step;
        private int place;
        // How many of the rounds without bound around the step, outer ones first, took a byte.
        private int taken;

        Walker(Program program, Bytes text) {
            pile = new Pile();
            failures = new Failures();
            marks = new int[MARKS];
            this.program = program;
            this.text = text;
        }

        void prepare(Program newProgram, Bytes newText, boolean newToEnd) {
            program = newProgram;
            text = newText;
            toEnd = newToEnd;
            failures.clear(program.slots() * (text.size() + 1));
        }

        /** Whether there is a match at one of the places; it is in the marks then. */
        boolean tryPlaces(int first, int last) {
            Arrays.fill(marks, NONE);
            for (int begin = first; begin <= last; begin++) {
                pile.clear();
                int end = walk(program.entry(), begin, 0);
                if (end != NONE) {
                    put(marks, 0, begin);
                    put(marks, 1, end);
                    return true;
                }
            }
            return false;
        }

        int mark(int index) {
            return index >= 0 && index < marks.length ? marks[index] : NONE;
        }

        void copyMarks(int[] target) {
            System.arraycopy(marks, 0, target, 0, Math.min(marks.length, target.length));
        }

        /** Where the match that comes behind the one in the marks is sought from. */
        int placeBehind() {
            return mark(1) > mark(0) ? mark(1) : mark(1) + 1;
        }

        /** Where the first way from a step ends, or NONE; what lies lower on the pile stays. */
        private int walk(int entry, int begin, int level) {
            int height = pile.size();
            step = entry;
            place = begin;
            taken = 0;
            for (int k = 0; k < STEP_LIMIT; k++) {
                boolean goesOn;
                if (step == 0) {
                    if (level > 0 || !toEnd || place == text.size()) {
                        return place;
                    }
                    goesOn = false;
                } else {
                    goesOn = advance(level);
                }
                if (!goesOn && !goBack(height)) {
                    return NONE;
                }
            }
            return NONE;
        }

        private boolean advance(int level) {
            int value = program.valueOf(step);
            switch (program.kindOf(step)) {
                case BYTE:
                    return text.at(place) == value && take();
                case SET:
                    return program.holds(value, text.at(place)) && take();
                case SPLIT:
                    return chooseFirst();
                case ROUND:
                    return endRound(value);
                case MARK:
                    return setMark(value);
                case FRONT:
                    return place == 0 && pass();
                case BACK:
                    return place == text.size() && pass();
                case EDGE:
                    return isEdge() && pass();
                case NO_EDGE:
                    return !isEdge() && pass();
                case KEEP:
                case AHEAD:
                case NOT_AHEAD:
                    return walkApart(level);
                default:
                    return false;
            }
        }

        private boolean pass() {
            step = program.nextOf(step);
            return true;
        }

        private boolean take() {
            place++;
            taken = program.depthOf(step);
            return pass();
        }

        private boolean chooseFirst() {
            if (failures.has(key(step, place), taken)) {
                return false;
            }
            pile.push(Pile.pack(Pile.CHOICE, step, taken, place));
            return pass();
        }

        private boolean endRound(int depth) {
            if (taken < depth) {
                return false;
            }
            taken = depth - 1;
            return pass();
        }

        private boolean setMark(int index) {
            if (mark(index) != place) {
                pile.push(Pile.pack(Pile.UNDO, index, 0, mark(index) + 1));
                put(marks, index, place);
            }
            return pass();
        }

        private boolean isEdge() {
            return isWord(text.at(place - 1)) != isWord(text.at(place));
        }

        private static boolean isWord(int b) {
            return isLetter(b) || isDigit(b) || b == '_';
        }

        private int key(int atStep, int atPlace) {
            return program.slotOf(atStep) * (text.size() + 1) + atPlace;
        }

        /** A lookahead or kept rounds: its first way alone counts. */
        private boolean walkApart(int level) {
            if (level > 0 || failures.has(key(step, place), taken)) {
                return false;
            }
            int from = step;
            int begin = place;
            int takenBefore = taken;
            pile.push(Pile.pack(Pile.FAILED, from, takenBefore, begin));
            int height = pile.size();
            int end = walk(program.otherOf(from), begin, level + 1);
            pile.dropWays(height);
            int kind = program.kindOf(from);
            if ((end == NONE) != (kind == NOT_AHEAD)) {
                return false;
            }
            step = program.nextOf(from);
            boolean takes = kind == KEEP && end > begin;
            place = takes ? end : begin;
            taken = takes ? program.depthOf(from) : takenBefore;
            return true;
        }

        /** Goes back to the latest choice above a height and on to its second way, if any. */
        private boolean goBack(int height) {
            for (int k = pile.size(); k > height; k--) {
                int entry = pile.pop();
                int atStep = Pile.stepOf(entry);
                int atPlace = Pile.placeOf(entry);
                int withTaken = Pile.takenOf(entry);
                if (Pile.kindOf(entry) == Pile.UNDO) {
                    put(marks, atStep, atPlace - 1);
                } else if (Pile.kindOf(entry) == Pile.FAILED) {
                    failures.add(key(atStep, atPlace), withTaken);
                } else {
                    pile.push(Pile.pack(Pile.FAILED, atStep, withTaken, atPlace));
                    step = program.otherOf(atStep);
                    place = atPlace;
                    taken = withTaken;
                    return true;
                }
            }
            return false;
        }
    }
}
