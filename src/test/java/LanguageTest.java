import java.io.IOException;
import java.lang.reflect.Constructor;
import java.lang.reflect.Executable;
import java.lang.reflect.Field;
import java.lang.reflect.Method;
import java.lang.reflect.Modifier;
import java.nio.charset.StandardCharsets;
import java.nio.file.Files;
import java.nio.file.Path;
import java.util.ArrayList;
import java.util.List;
import java.util.regex.Matcher;
import java.util.regex.Pattern;

/** The rules of ../shared/LANGUAGE.md with a limit, or with words that can't stand in the class. */
public final class LanguageTest {
    private static final Path SOURCE = Path.of("src/main/java/PatternTrier.java");
    private static final int MOST_CLASSES = 12;
    private static final int MOST_FIELDS = 20;
    private static final int MOST_PARAMETERS = 7;
    private static final int MOST_LINES = 60;
    // Those of rule 6, and the one that promise 11 names.
    private static final String THROWN = "IllegalStateException|IllegalArgumentException|IndexOutOfBoundsException"
            + "|ArithmeticException|UnsupportedOperationException|NoSuchElementException|RuntimeException"
            + "|ClassCastException";

    public static void main(String[] args) throws IOException {
        String source = Files.readString(SOURCE, StandardCharsets.US_ASCII);
        String code = source.replaceAll("(?s)/\\*.*?\\*/", "").replaceAll("//[^\n]*", "");
        String bare = code.replaceAll("\"[^\"]*\"", "\"\"").replaceAll("'(\\\\.|[^'])'", "' '");
        none(bare, "rule 2", "->|::");
        none(bare, "rule 4", "Exact\\(|System\\.(?!arraycopy)|Arrays\\.(?!copyOf|copyOfRange|fill)");
        none(bare, "rule 6", "\\b(finally|synchronized|assert|catch|try|equals|hashCode|toString)\\b");
        none(bare, "rule 13", "\\b(Random|Thread|File|Files|Runtime|Process)\\b");
        none(bare, "the head", "\\bpackage\\b");
        none(bare, "imports", "import (?!java\\.util\\.(Arrays|NoSuchElementException);)");
        none(code, "what is thrown", "throw (?!new (" + THROWN + ")\\(\"[^\"]+\"\\);)");
        methodsAreShort(source);
        classesAreSmall();
        Check.finish();
    }

    private static void none(String code, String rule, String words) {
        Matcher matcher = Pattern.compile(words).matcher(code);
        while (matcher.find()) {
            int end = code.indexOf('\n', matcher.start());
            Check.same(rule, code.substring(matcher.start(), end), "not there");
        }
    }

    /** A method begins with a line that ends in { and ends with a } under its first letter. */
    private static void methodsAreShort(String source) {
        String[] lines = source.split("\n");
        Pattern head = Pattern.compile("( {4}| {8})(?!private static final class)[a-zA-Z][\\w\\[\\] ]*\\(.*");
        int methods = 0;
        for (int i = 0; i < lines.length; i++) {
            Matcher matcher = head.matcher(lines[i]);
            if (matcher.matches() && !lines[i].endsWith(";")) {
                int end = i;
                while (end < lines.length && !lines[end].equals(matcher.group(1) + "}")) {
                    end++;
                }
                methods++;
                Check.same("lines of " + lines[i], "" + (end - i < MOST_LINES), "true");
            }
        }
        Check.same("methods were seen", "" + (methods > 100), "true");
    }

    private static void classesAreSmall() {
        List<Class<?>> classes = new ArrayList<>(List.of(PatternTrier.class.getDeclaredClasses()));
        classes.add(PatternTrier.class);
        Check.same(classes.size() + " classes", "" + (classes.size() <= MOST_CLASSES), "true");
        for (Class<?> each : classes) {
            int fields = 0;
            for (Field field : each.getDeclaredFields()) {
                boolean isStatic = Modifier.isStatic(field.getModifiers());
                fields += isStatic ? 0 : 1;
                boolean changes = isStatic && !Modifier.isFinal(field.getModifiers());
                Check.same("static that changes: " + field, "" + changes, "false");
            }
            Check.same(fields + " fields of " + each, "" + (fields <= MOST_FIELDS), "true");
            for (Method method : each.getDeclaredMethods()) {
                hasFewParameters(method);
            }
            for (Constructor<?> constructor : each.getDeclaredConstructors()) {
                hasFewParameters(constructor);
            }
        }
    }

    private static void hasFewParameters(Executable executable) {
        Check.same("parameters of " + executable, "" + (executable.getParameterCount() <= MOST_PARAMETERS), "true");
    }
}
