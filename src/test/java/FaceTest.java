import java.lang.reflect.Constructor;
import java.lang.reflect.Field;
import java.lang.reflect.Method;
import java.lang.reflect.Modifier;
import java.util.Arrays;
import java.util.Set;
import java.util.TreeSet;

/** The class has the face of the document, and no other member that can be seen. */
public final class FaceTest {
    private static final String[] FACE = {
        "int feed(int, int, int, int, int) IndexOutOfBoundsException",
        "int end(int) IllegalArgumentException",
        "int pattern(int) IllegalArgumentException UnsupportedOperationException IndexOutOfBoundsException",
        "int text(int) IllegalArgumentException IndexOutOfBoundsException",
        "int match(int, int, int, int) IllegalArgumentException NoSuchElementException IndexOutOfBoundsException",
        "int group(int, int) IllegalArgumentException",
        "int find(int, int) IllegalArgumentException NoSuchElementException IndexOutOfBoundsException",
        "int found(int, int) IllegalArgumentException IndexOutOfBoundsException",
        "int replace(int, int) IllegalArgumentException NoSuchElementException IllegalStateException"
                + " UnsupportedOperationException IndexOutOfBoundsException",
        "int span(int, int, int) IllegalArgumentException NoSuchElementException ClassCastException",
        "long word(int, int) IllegalArgumentException IndexOutOfBoundsException",
        "int count(int) IllegalArgumentException"
    };

    public static void main(String[] args) {
        Set<String> names = new TreeSet<>();
        Set<String> seen = new TreeSet<>();
        for (Method method : PatternTrier.class.getDeclaredMethods()) {
            if (!Modifier.isPrivate(method.getModifiers())) {
                names.add(method.getName());
                seen.add(told(method));
            }
        }
        Check.same("the face", seen.toString(), new TreeSet<>(Arrays.asList(FACE)).toString());
        for (Method method : PatternTrier.class.getDeclaredMethods()) {
            boolean hidden = Modifier.isPrivate(method.getModifiers());
            if (hidden && names.contains(method.getName())) {
                Check.same("a private method", method.getName(), "another name");
            }
        }
        for (Field field : PatternTrier.class.getDeclaredFields()) {
            int modifiers = field.getModifiers();
            Check.same("private: " + field.getName(), "" + Modifier.isPrivate(modifiers), "true");
            boolean changing = Modifier.isStatic(modifiers) && !Modifier.isFinal(modifiers);
            Check.same("static that changes: " + field.getName(), "" + changing, "false");
        }
        for (Constructor<?> constructor : PatternTrier.class.getDeclaredConstructors()) {
            Check.same("the constructor", constructor.toString(), "public PatternTrier()");
        }
        for (Class<?> inside : PatternTrier.class.getDeclaredClasses()) {
            int modifiers = inside.getModifiers();
            boolean hidden = Modifier.isPrivate(modifiers) && Modifier.isStatic(modifiers);
            Check.same("private and static: " + inside.getName(), "" + hidden, "true");
        }
        int modifiers = PatternTrier.class.getModifiers();
        Check.same("public and final", "" + (Modifier.isPublic(modifiers) && Modifier.isFinal(modifiers)), "true");
        Check.finish();
    }

    private static String told(Method method) {
        StringBuilder told = new StringBuilder();
        told.append(method.getReturnType().getSimpleName()).append(' ').append(method.getName()).append('(');
        for (int i = 0; i < method.getParameterCount(); i++) {
            told.append(i == 0 ? "" : ", ").append(method.getParameterTypes()[i].getSimpleName());
        }
        told.append(')');
        for (Class<?> thrown : method.getExceptionTypes()) {
            told.append(' ').append(thrown.getSimpleName());
        }
        return told.toString();
    }
}
