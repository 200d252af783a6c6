import java.lang.reflect.Field;
import java.lang.reflect.Method;
import java.lang.reflect.Modifier;
import java.util.Arrays;
import java.util.TreeSet;

/** The public face is that of the document, and nothing else of the class can be seen from outside. */
public final class FaceTest {
    private static final String[] FACE = {
        "int kind(int) IllegalArgumentException",
        "int digit(int, int) IndexOutOfBoundsException IllegalArgumentException",
        "boolean number(int, boolean) IllegalArgumentException",
        "boolean entry(int, int, int, boolean) IllegalArgumentException",
        "int analyse(int) IllegalArgumentException",
        "int nimber(int) IndexOutOfBoundsException",
        "int frequency(int)",
        "int period(int) IndexOutOfBoundsException",
        "int options(int) IllegalArgumentException",
        "int option(int, int, int) IllegalArgumentException IndexOutOfBoundsException",
        "int heap(int, int) IndexOutOfBoundsException IllegalArgumentException",
        "int at(int) IndexOutOfBoundsException",
        "int moves() UnsupportedOperationException",
        "int move(int, int) UnsupportedOperationException IndexOutOfBoundsException",
        "int play(int) UnsupportedOperationException IndexOutOfBoundsException IllegalStateException",
        "boolean wins(int) UnsupportedOperationException IndexOutOfBoundsException IllegalStateException",
        "int undo() IllegalStateException",
        "int value() IllegalStateException",
        "boolean lastLoses() UnsupportedOperationException",
        "int quotient(int) IllegalArgumentException",
        "int classOf() IllegalStateException UnsupportedOperationException",
        "int ofClass(int, int) IllegalStateException IndexOutOfBoundsException",
        "int count(int)",
    };

    public static void main(String[] args) {
        Check check = new Check("face");
        check.due("public final", true, Modifier.isPublic(HeapDesk.class.getModifiers())
                && Modifier.isFinal(HeapDesk.class.getModifiers()));
        check.due("methods", new TreeSet<>(Arrays.asList(FACE)), seenMethods());
        check.due("fields", "[public static final int HeapDesk.NONE]", seenFields().toString());
        check.due("constructors", "[public HeapDesk()]",
                Arrays.toString(HeapDesk.class.getDeclaredConstructors()));
        check.due("private methods with a public name", "[]", namesakes().toString());
        for (Class<?> inside : HeapDesk.class.getDeclaredClasses()) {
            check.due(inside + " is static and not public", true, Modifier.isStatic(inside.getModifiers())
                    && !Modifier.isPublic(inside.getModifiers()) && !Modifier.isProtected(inside.getModifiers()));
        }
        check.end();
    }

    private static TreeSet<String> seenMethods() {
        TreeSet<String> seen = new TreeSet<>();
        for (Method method : HeapDesk.class.getDeclaredMethods()) {
            if (!Modifier.isPrivate(method.getModifiers())) {
                seen.add(textOf(method));
            }
        }
        return seen;
    }

    private static String textOf(Method method) {
        StringBuilder text = new StringBuilder();
        text.append(method.getReturnType().getSimpleName()).append(' ').append(method.getName()).append('(');
        for (Class<?> parameter : method.getParameterTypes()) {
            text.append(text.charAt(text.length() - 1) == '(' ? "" : ", ").append(parameter.getSimpleName());
        }
        text.append(')');
        for (Class<?> thrown : method.getExceptionTypes()) {
            text.append(' ').append(thrown.getSimpleName());
        }
        return text.toString();
    }

    private static TreeSet<String> seenFields() {
        TreeSet<String> seen = new TreeSet<>();
        for (Field field : HeapDesk.class.getDeclaredFields()) {
            if (!Modifier.isPrivate(field.getModifiers())) {
                seen.add(field.toString());
            }
        }
        return seen;
    }

    private static TreeSet<String> namesakes() {
        TreeSet<String> names = new TreeSet<>();
        for (Method method : HeapDesk.class.getDeclaredMethods()) {
            if (Modifier.isPublic(method.getModifiers())) {
                names.add(method.getName());
            }
        }
        TreeSet<String> found = new TreeSet<>();
        found.addAll(namesakesIn(HeapDesk.class, names));
        for (Class<?> inside : HeapDesk.class.getDeclaredClasses()) {
            found.addAll(namesakesIn(inside, names));
        }
        return found;
    }

    private static TreeSet<String> namesakesIn(Class<?> type, TreeSet<String> names) {
        TreeSet<String> found = new TreeSet<>();
        for (Method method : type.getDeclaredMethods()) {
            if (!Modifier.isPublic(method.getModifiers()) && names.contains(method.getName())) {
                found.add(type.getSimpleName() + "." + method.getName());
            }
        }
        return found;
    }
}
