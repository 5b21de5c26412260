import java.io.IOException;
import java.lang.reflect.Method;
import java.nio.charset.StandardCharsets;
import java.nio.file.Files;
import java.nio.file.Path;
import java.util.regex.Matcher;
import java.util.regex.Pattern;

/** The example of README.md: each call answers the number that stands behind it. */
public final class ReadmeTest {
    private static final Pattern LINE = Pattern.compile("trier\\.(\\w+)\\(([^)]*)\\);(?: *// (?:(-?\\d+): )?.*)?");

    public static void main(String[] args) throws IOException {
        String readme = Files.readString(Path.of("README.md"), StandardCharsets.UTF_8);
        int first = readme.indexOf("```java\n") + 8;
        String[] lines = readme.substring(first, readme.indexOf("```", first)).split("\n");
        Check.same("the first line", lines[0], "PatternTrier trier = new PatternTrier();");
        PatternTrier trier = new PatternTrier();
        int answers = 0;
        for (int i = 1; i < lines.length; i++) {
            Matcher matcher = LINE.matcher(lines[i]);
            if (!matcher.matches()) {
                Check.same("a line that is no call", lines[i], "");
                continue;
            }
            String got = Check.answer(() -> answer(trier, matcher.group(1), matcher.group(2)));
            if (matcher.group(3) != null) {
                answers++;
                Check.same(lines[i], got, matcher.group(3));
            }
        }
        Check.same("answers were told", "" + (answers >= 7), "true");
        Check.finish();
    }

    private static long answer(PatternTrier trier, String name, String told) {
        String[] numbers = told.split(", ");
        Object[] arguments = new Object[numbers.length];
        for (int i = 0; i < numbers.length; i++) {
            arguments[i] = Integer.decode(numbers[i]);
        }
        for (Method method : PatternTrier.class.getMethods()) {
            if (method.getName().equals(name) && method.getParameterCount() == numbers.length) {
                try {
                    return ((Number) method.invoke(trier, arguments)).longValue();
                } catch (ReflectiveOperationException e) {
                    throw new IllegalStateException(e);
                }
            }
        }
        throw new IllegalStateException(name);
    }
}
