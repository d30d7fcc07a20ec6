import java.io.IOException;
import java.lang.reflect.Method;
import java.lang.reflect.Modifier;
import java.nio.file.Files;
import java.nio.file.Path;
import java.util.List;
import java.util.regex.Matcher;
import java.util.regex.Pattern;

/** README.md: its example answers what its comments say, and no call of the public face is left out. */
public final class ReadmeTest {
    private static final Pattern CALL = Pattern.compile("watch\\.(\\w+)\\(([^)]*)\\); *// (-?\\d+): .*");

    public static void main(String[] args) throws IOException, ReflectiveOperationException {
        Due due = new Due();
        List<String> lines = Files.readAllLines(Path.of("README.md"));
        exampleAnswersSo(due, lines);
        everyCallIsTold(due, lines);
        due.end();
    }

    private static void exampleAnswersSo(Due due, List<String> lines) throws ReflectiveOperationException {
        CutWatch x = new CutWatch();
        for (String line : lines) {
            if (line.startsWith("watch.")) {
                Matcher call = CALL.matcher(line);
                due.is("a call with its answer: " + line, call.matches() ? 1 : 0, 1);
                if (call.matches()) {
                    due.is(line, answer(x, call.group(1), call.group(2)), Integer.parseInt(call.group(3)));
                }
            }
        }
    }

    private static int answer(CutWatch x, String name, String told) throws ReflectiveOperationException {
        String[] words = told.isEmpty() ? new String[0] : told.split(", ");
        Method method = named(name);
        Class<?>[] types = method.getParameterTypes();
        Object[] arguments = new Object[words.length];
        for (int n = 0; n < words.length; n++) {
            if (types[n] == boolean.class) {
                arguments[n] = Boolean.valueOf(words[n]);
            } else {
                arguments[n] = Integer.valueOf(words[n]);
            }
        }
        return (Integer) method.invoke(x, arguments);
    }

    private static Method named(String name) throws NoSuchMethodException {
        for (Method method : CutWatch.class.getDeclaredMethods()) {
            if (Modifier.isPublic(method.getModifiers()) && method.getName().equals(name)) {
                return method;
            }
        }
        throw new NoSuchMethodException(name);
    }

    private static void everyCallIsTold(Due due, List<String> lines) {
        for (Method method : CutWatch.class.getDeclaredMethods()) {
            if (Modifier.isPublic(method.getModifiers())) {
                String name = method.getName();
                due.is(name + " in the example", lineWith(lines, "watch." + name + "("), 1);
                due.is(name + " among the calls", lineWith(lines, "| `" + name + "("), 1);
            }
        }
    }

    private static int lineWith(List<String> lines, String beginning) {
        for (String line : lines) {
            if (line.startsWith(beginning)) {
                return 1;
            }
        }
        return 0;
    }
}
