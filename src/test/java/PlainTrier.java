import java.util.ArrayList;
import java.util.List;

/**
 * The document's promises in their plainest form, over texts: what the class is compared with in
 * runs of calls. Each call answers a number, or the name of what it has to throw, as a text.
 */
final class PlainTrier {
    private static final int BUDGET = 40000;

    private final PlainMatcher.Part[] patterns = new PlainMatcher.Part[8];
    private final String[] texts = {"", "", "", ""};
    private final int[] groups = new int[20];
    private List<int[]> found = new ArrayList<>();
    private String tape = "";
    private int place = -1;

    PlainTrier() {
        java.util.Arrays.fill(groups, -1);
    }

    String tape() {
        return tape;
    }

    int size(int t) {
        return t >= 0 && t < 4 ? texts[t].length() : 0;
    }

    int found() {
        return found.size();
    }

    /** A call by its name; TooLong if the plain matcher gives up, and then nothing is changed. */
    String call(String name, int[] n) {
        switch (name) {
            case "feed": return feed(n);
            case "end": return end(n[0]);
            case "pattern": return pattern(n[0]);
            case "text": return text(n[0]);
            case "match": return match(n[0], n[1], n[2], n[3]);
            case "group": return group(n[0], n[1]);
            case "find": return find(n[0], n[1]);
            case "found": return found(n[0], n[1]);
            case "replace": return replace(n[0], n[1]);
            case "span": return span(n[0], n[1], n[2]);
            case "word": return word(n[0], n[1]);
            default: return count(n[0]);
        }
    }

    private static boolean within(int n, int first, int last) {
        return n >= first && n <= last;
    }

    private String feed(int[] ints) {
        if (tape.length() > 1180) {
            return Check.BOUNDS;
        }
        for (int four : ints) {
            tape += "" + (char) (four >>> 24) + (char) (four >>> 16 & 255) + (char) (four >>> 8 & 255) + (char) (four & 255);
        }
        return "" + tape.length();
    }

    private String end(int n) {
        if (!within(n, 0, tape.length())) {
            return Check.ARGUMENT;
        }
        tape = tape.substring(0, n);
        return "" + n;
    }

    private String pattern(int p) {
        String source = tape;
        tape = "";
        place = -1;
        if (!within(p, 0, 7)) {
            return Check.ARGUMENT;
        }
        PlainMatcher.Part root;
        try {
            root = PlainReader.read(source);
        } catch (PlainReader.Broken e) {
            place = e.place;
            return Check.BROKEN;
        }
        if (root.weight > 400) {
            return Check.BOUNDS;
        }
        patterns[p] = root;
        return "" + root.weight;
    }

    private String text(int t) {
        String source = tape;
        tape = "";
        if (!within(t, 0, 3)) {
            return Check.ARGUMENT;
        }
        if (source.length() > 1000) {
            return Check.BOUNDS;
        }
        texts[t] = source;
        return "" + source.length();
    }

    /** What each call with a PATTERN and a TEXT throws first, or nothing. */
    private String refused(int p, int t, boolean othersAreRight) {
        if (!within(p, 0, 7) || !within(t, 0, 3) || !othersAreRight) {
            return Check.ARGUMENT;
        }
        return patterns[p] == null ? Check.NO_SUCH : "";
    }

    private String match(int p, int t, int how, int a) {
        String refused = refused(p, t, within(how, 0, 2));
        if (!refused.isEmpty()) {
            return refused;
        }
        int size = texts[t].length();
        if (how != 0 && !within(a, 0, size)) {
            return Check.BOUNDS;
        }
        PlainMatcher matcher = new PlainMatcher(texts[t]);
        int begin = how == 0 ? 0 : a;
        int end = matcher.end(patterns[p], begin, how == 0, BUDGET);
        while (how == 2 && end < 0 && begin < size) {
            begin++;
            end = matcher.end(patterns[p], begin, false, BUDGET);
        }
        if (end >= 0) {
            System.arraycopy(matcher.marks, 0, groups, 0, groups.length);
            groups[0] = begin;
            groups[1] = end;
        }
        return "" + end;
    }

    private String group(int i, int part) {
        return within(i, 0, 9) && within(part, 0, 1) ? "" + groups[2 * i + part] : Check.ARGUMENT;
    }

    /** The marks of ALL MATCHES. */
    private List<int[]> all(int p, int t) {
        List<int[]> all = new ArrayList<>();
        PlainMatcher matcher = new PlainMatcher(texts[t]);
        int begin = 0;
        while (begin <= texts[t].length()) {
            int end = matcher.end(patterns[p], begin, false, BUDGET);
            if (end >= 0) {
                int[] marks = matcher.marks.clone();
                marks[0] = begin;
                marks[1] = end;
                all.add(marks);
            }
            begin = end > begin ? end : begin + 1;
        }
        return all;
    }

    private String find(int p, int t) {
        String refused = refused(p, t, true);
        if (!refused.isEmpty()) {
            return refused;
        }
        if (texts[t].length() > 300) {
            return Check.BOUNDS;
        }
        found = all(p, t);
        return "" + found.size();
    }

    private String found(int i, int part) {
        if (!within(part, 0, 1)) {
            return Check.ARGUMENT;
        }
        return within(i, 0, found.size() - 1) ? "" + found.get(i)[part] : Check.BOUNDS;
    }

    private String replace(int p, int t) {
        String model = tape;
        List<int[]> all = null;
        String refused = refused(p, t, true);
        if (refused.isEmpty() && texts[t].length() > 300) {
            refused = Check.BOUNDS;
        }
        if (refused.isEmpty()) {
            all = all(p, t);
        }
        tape = "";
        place = -1;
        if (!refused.isEmpty()) {
            return refused;
        }
        for (int i = model.indexOf('$'); i >= 0; i = model.indexOf('$', i + 2)) {
            if (i + 1 == model.length() || "$0123456789".indexOf(model.charAt(i + 1)) < 0) {
                place = i + 1;
                return Check.BROKEN;
            }
        }
        String replaced = replaced(texts[t], all, model);
        if (replaced.length() > 1000) {
            return Check.STATE;
        }
        texts[t] = replaced;
        found = all;
        return "" + replaced.length();
    }

    private static String replaced(String text, List<int[]> all, String model) {
        StringBuilder replaced = new StringBuilder();
        int copied = 0;
        for (int[] marks : all) {
            replaced.append(text, copied, marks[0]);
            for (int i = 0; i < model.length(); i++) {
                char sign = model.charAt(i);
                if (sign != '$' || model.charAt(++i) == '$') {
                    replaced.append(sign);
                } else if (marks[2 * (model.charAt(i) - '0')] >= 0) {
                    int mark = 2 * (model.charAt(i) - '0');
                    replaced.append(text, marks[mark], marks[mark + 1]);
                }
            }
            copied = marks[1];
        }
        return replaced.append(text.substring(copied)).toString();
    }

    private String span(int p, int t, int in) {
        String refused = refused(p, t, within(in, 0, 1));
        if (!refused.isEmpty()) {
            return refused;
        }
        List<PlainMatcher.Part> row = patterns[p].rows.get(0);
        if (patterns[p].rows.size() != 1 || row.size() != 1 || !row.get(0).told.equals("set")) {
            return Check.CAST;
        }
        int length = 0;
        while (length < texts[t].length() && row.get(0).set[texts[t].charAt(length)] == (in == 1)) {
            length++;
        }
        return "" + length;
    }

    private String word(int t, int i) {
        if (!within(t, 0, 3)) {
            return Check.ARGUMENT;
        }
        if (!within(i, 0, texts[t].length() - 1)) {
            return Check.BOUNDS;
        }
        long word = 0;
        for (int k = i; k < i + 8; k++) {
            word = word * 256 + (k < texts[t].length() ? texts[t].charAt(k) : 0);
        }
        return "" + word;
    }

    private String count(int what) {
        if (within(what, 10, 17)) {
            return "" + (patterns[what - 10] == null ? -1 : patterns[what - 10].weight);
        }
        if (within(what, 20, 23)) {
            return "" + texts[what - 20].length();
        }
        if (within(what, 30, 37)) {
            return "" + (patterns[what - 30] == null ? -1 : patterns[what - 30].number);
        }
        switch (what) {
            case 0: return "" + tape.length();
            case 1: return "" + place;
            case 2: return "" + found.size();
            default: return Check.ARGUMENT;
        }
    }
}
