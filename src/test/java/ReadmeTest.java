import java.io.IOException;
import java.lang.reflect.InvocationTargetException;
import java.lang.reflect.Method;
import java.lang.reflect.Modifier;
import java.nio.file.Files;
import java.nio.file.Path;
import java.util.List;
import java.util.regex.Matcher;
import java.util.regex.Pattern;

/** What README.md shows holds: its calls answer what stands behind them, and it names every call of the face. */
public final class ReadmeTest {
    private static final Pattern CALL = Pattern.compile(
            "desk\\.(\\w+)\\(([^)]*)\\); +// (-?\\d+|true|false|throws \\w+)\\b.*");
    private static final String BLOCK = "```java";
    private static final String END_OF_BLOCK = "```";
    private static final String NEW_DESK = "HeapDesk desk = new HeapDesk();";

    private final Check check = new Check("readme");
    private HeapDesk desk;
    private int shown;

    public static void main(String[] args) throws IOException {
        List<String> lines = Files.readAllLines(Path.of("README.md"));
        ReadmeTest test = new ReadmeTest();
        test.shownCalls(lines);
        test.namedCalls(String.join("\n", lines));
        test.check.end();
    }

    private void shownCalls(List<String> lines) {
        boolean inBlock = false;
        for (String line : lines) {
            if (line.equals(BLOCK) || line.equals(END_OF_BLOCK)) {
                inBlock = line.equals(BLOCK);
            } else if (inBlock && !line.isEmpty()) {
                shownLine(line);
            }
        }
        check.due("README.md shows calls", true, shown > 0);
    }

    private void shownLine(String line) {
        if (line.startsWith(NEW_DESK)) {
            desk = new HeapDesk();
            return;
        }
        Matcher call = CALL.matcher(line);
        if (!call.matches() || desk == null) {
            check.due(line, "a call with its answer", "something else");
            return;
        }
        shown++;
        check.due(line, call.group(3), answer(methodNamed(call.group(1)), call.group(2)));
    }

    private String answer(Method method, String arguments) {
        if (method == null) {
            return "no such call";
        }
        try {
            return method.invoke(desk, values(method, arguments)).toString();
        } catch (InvocationTargetException e) {
            return "throws " + e.getCause().getClass().getSimpleName();
        } catch (IllegalAccessException | IllegalArgumentException e) {
            return "can't be called so";
        }
    }

    private static Object[] values(Method method, String arguments) {
        String[] texts = arguments.isEmpty() ? new String[0] : arguments.split(", ");
        Class<?>[] types = method.getParameterTypes();
        Object[] values = new Object[texts.length];
        for (int i = 0; i < texts.length; i++) {
            boolean isTruth = i < types.length && types[i] == boolean.class;
            values[i] = isTruth ? (Object) Boolean.valueOf(texts[i]) : (Object) Integer.valueOf(texts[i]);
        }
        return values;
    }

    private static Method methodNamed(String name) {
        for (Method method : HeapDesk.class.getDeclaredMethods()) {
            if (Modifier.isPublic(method.getModifiers()) && method.getName().equals(name)) {
                return method;
            }
        }
        return null;
    }

    private void namedCalls(String text) {
        for (Method method : HeapDesk.class.getDeclaredMethods()) {
            if (Modifier.isPublic(method.getModifiers())) {
                String start = "`" + method.getName() + "(";
                check.due("README.md names " + method.getName(), true, text.contains(start));
            }
        }
    }
}
