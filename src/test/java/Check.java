/** What the tests share: feeding texts, and comparing answers with those that are due. */
final class Check {
    static final String ARGUMENT = "IllegalArgumentException";
    static final String BOUNDS = "IndexOutOfBoundsException";
    static final String NO_SUCH = "NoSuchElementException";
    static final String BROKEN = "UnsupportedOperationException";
    static final String STATE = "IllegalStateException";
    static final String CAST = "ClassCastException";

    private static int wrong = 0;

    interface Call {
        long run();
    }

    private Check() {
    }

    /** The answer of a call, or the very class of what it throws. */
    static String answer(Call call) {
        try {
            return Long.toString(call.run());
        } catch (RuntimeException e) {
            return e.getClass().getSimpleName();
        }
    }

    static void due(String what, Call call, long want) {
        same(what, answer(call), Long.toString(want));
    }

    static void due(String what, Call call, String want) {
        same(what, answer(call), want);
    }

    static void same(String what, String got, String want) {
        if (!got.equals(want)) {
            wrong++;
            System.out.println(what + " answered " + got + ", due is " + want);
        }
    }

    /** Makes the tape hold just this text, each character a byte. */
    static void tape(PatternTrier x, String text) {
        x.end(0);
        for (int i = 0; i < text.length(); i += 20) {
            x.feed(four(text, i), four(text, i + 4), four(text, i + 8), four(text, i + 12), four(text, i + 16));
        }
        x.end(text.length());
    }

    private static int four(String text, int from) {
        int four = 0;
        for (int i = from; i < from + 4; i++) {
            four = four << 8 | (i < text.length() ? text.charAt(i) & 255 : 0);
        }
        return four;
    }

    static int pattern(PatternTrier x, int p, String pattern) {
        tape(x, pattern);
        return x.pattern(p);
    }

    static int text(PatternTrier x, int t, String text) {
        tape(x, text);
        return x.text(t);
    }

    static int replace(PatternTrier x, int p, int t, String model) {
        tape(x, model);
        return x.replace(p, t);
    }

    /** A new object with PATTERN 0 and TEXT 0. */
    static PatternTrier trier(String pattern, String text) {
        PatternTrier x = new PatternTrier();
        text(x, 0, text);
        pattern(x, 0, pattern);
        return x;
    }

    /** The bytes of a TEXT, as word tells them. */
    static String bytes(PatternTrier x, int t) {
        StringBuilder bytes = new StringBuilder();
        int size = x.count(20 + t);
        for (int i = 0; i < size; i += 8) {
            long word = x.word(t, i);
            for (int k = 0; k < 8 && i + k < size; k++) {
                bytes.append((char) (word >>> (56 - 8 * k) & 255));
            }
        }
        return bytes.toString();
    }

    /** All bytes of the tape, which is empty then; TEXT 3 is it, too. */
    static String takenTape(PatternTrier x) {
        x.text(3);
        return bytes(x, 3);
    }

    /** All that the face tells of the state without a change, but of the tape and the place. */
    static String state(PatternTrier x) {
        StringBuilder all = new StringBuilder();
        for (int p = 0; p < 8; p++) {
            all.append(x.count(10 + p)).append('/').append(x.count(30 + p)).append(' ');
        }
        for (int t = 0; t < 4; t++) {
            all.append('"').append(bytes(x, t)).append("\" ");
        }
        return all.append(groups(x, 9)).append(" found ").append(found(x)).toString();
    }

    /** All GROUPS up to the one given, as "begin-end", with . for none. */
    static String groups(PatternTrier x, int last) {
        StringBuilder all = new StringBuilder();
        for (int i = 0; i <= last; i++) {
            int begin = x.group(i, 0);
            int end = x.group(i, 1);
            all.append(i == 0 ? "" : " ");
            if (begin == -1 && end == -1) {
                all.append('.');
            } else {
                all.append(begin).append('-').append(end);
            }
        }
        return all.toString();
    }

    /** All that is FOUND, as "begin-end". */
    static String found(PatternTrier x) {
        StringBuilder all = new StringBuilder();
        int amount = x.count(2);
        for (int i = 0; i < amount; i++) {
            all.append(i == 0 ? "" : " ").append(x.found(i, 0)).append('-').append(x.found(i, 1));
        }
        return all.toString();
    }

    static String times(String text, int n) {
        return text.repeat(n);
    }

    static void finish() {
        if (wrong > 0) {
            System.out.println(wrong + " wrong");
            System.exit(1);
        }
    }
}
