import java.util.ArrayList;
import java.util.List;

/**
 * Random patterns as trees, and the plainest matcher of them: it calls what comes behind a part
 * from within the part, and remembers nothing. It is what the class is compared with.
 */
final class PlainMatcher {
    /** Thrown when a match takes too long for so plain a matcher. */
    static final class TooLong extends RuntimeException {
        private static final long serialVersionUID = 1L;
    }

    interface Behind {
        boolean go(int place);
    }

    static final class Part {
        char kind;
        String told = "";
        String told2 = "";
        boolean[] set;
        List<List<Part>> rows = new ArrayList<>();
        Part inner;
        int number;
        int least;
        int most;
        char manner = ' ';
        int weight;
        boolean keeps;
        boolean canBeEmpty;
    }

    final String text;
    final int[] marks = new int[20];
    private int left;

    PlainMatcher(String text) {
        this.text = text;
    }

    /** The end of a match at a place, or -1; its marks then are in marks. */
    int end(Part root, int place, boolean whole, int budget) {
        java.util.Arrays.fill(marks, -1);
        left = budget;
        int[] end = {-1};
        ways(root, place, at -> {
            if (whole && at != text.length()) {
                return false;
            }
            end[0] = at;
            return true;
        });
        return end[0];
    }

    /** The groups of the latest match, in the form of Check.groups. */
    String told(int begin, int end, int groups) {
        StringBuilder all = new StringBuilder();
        all.append(begin).append('-').append(end);
        for (int i = 1; i <= groups; i++) {
            boolean none = marks[2 * i] == -1 && marks[2 * i + 1] == -1;
            all.append(' ').append(none ? "." : marks[2 * i] + "-" + marks[2 * i + 1]);
        }
        return all.toString();
    }

    private boolean ways(Part part, int place, Behind behind) {
        for (List<Part> row : part.rows) {
            if (row(row, 0, place, behind)) {
                return true;
            }
        }
        return false;
    }

    private boolean row(List<Part> row, int index, int place, Behind behind) {
        if (index == row.size()) {
            return behind.go(place);
        }
        return part(row.get(index), place, at -> row(row, index + 1, at, behind));
    }

    private boolean part(Part part, int place, Behind behind) {
        left--;
        if (left < 0) {
            throw new TooLong();
        }
        switch (part.kind) {
            case 's':
                return place < text.length() && part.set[text.charAt(place)] && behind.go(place + 1);
            case '^':
                return place == 0 && behind.go(place);
            case '$':
                return place == text.length() && behind.go(place);
            case 'b':
                return isWord(place - 1) != isWord(place) && behind.go(place);
            case 'B':
                return isWord(place - 1) == isWord(place) && behind.go(place);
            case ':':
                return ways(part, place, behind);
            case '(':
                return ways(part, place, at -> group(part.number, place, at, behind));
            case '=':
                return apart(at -> ways(part, place, at), at -> behind.go(place));
            case '!':
                int[] before = marks.clone();
                boolean ahead = ways(part, place, at -> true);
                System.arraycopy(before, 0, marks, 0, marks.length);
                return !ahead && behind.go(place);
            default:
                return part.manner == '+'
                        ? apart(at -> rounds(part, 0, place, at), behind)
                        : rounds(part, 0, place, behind);
        }
    }

    private interface Way {
        boolean go(Behind behind);
    }

    private boolean apart(Way way, Behind behind) {
        int[] before = marks.clone();
        int[] end = {-1};
        boolean goes = way.go(at -> {
            end[0] = at;
            return true;
        });
        if (goes && behind.go(end[0])) {
            return true;
        }
        System.arraycopy(before, 0, marks, 0, marks.length);
        return false;
    }

    private boolean group(int number, int begin, int end, Behind behind) {
        int beginBefore = marks[2 * number];
        int endBefore = marks[2 * number + 1];
        marks[2 * number] = begin;
        marks[2 * number + 1] = end;
        if (behind.go(end)) {
            return true;
        }
        marks[2 * number] = beginBefore;
        marks[2 * number + 1] = endBefore;
        return false;
    }

    private boolean rounds(Part part, int done, int place, Behind behind) {
        boolean enough = done >= part.least;
        if (part.manner == '?' && enough && behind.go(place)) {
            return true;
        }
        boolean noBound = part.most < 0;
        if ((noBound || done < part.most) && part(part.inner, place, at -> {
            if (noBound && enough && at == place) {
                return false;
            }
            return rounds(part, done + 1, at, behind);
        })) {
            return true;
        }
        return part.manner != '?' && enough && behind.go(place);
    }

    private boolean isWord(int place) {
        return place >= 0 && place < text.length() && isWordByte(text.charAt(place));
    }

    static boolean isWordByte(int b) {
        return b >= 'a' && b <= 'z' || b >= 'A' && b <= 'Z' || b >= '0' && b <= '9' || b == '_';
    }
}
