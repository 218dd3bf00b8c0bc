import java.io.IOException;
import java.lang.reflect.Method;
import java.lang.reflect.Modifier;
import java.nio.file.Files;
import java.nio.file.Path;
import java.util.HashMap;
import java.util.List;
import java.util.Map;
import java.util.regex.Matcher;
import java.util.regex.Pattern;
import java.util.stream.Stream;

/** What README.md tells: each call in its blocks of Java answers as its comment says. */
public final class ReadmeTest {
    private static final Pattern CALL = Pattern.compile("x\\.(\\w+)\\((.*)\\);\\s*// (-?\\d+)(:.*)?");
    private static final Map<String, Method> METHODS = new HashMap<>();

    private static Object number(String told, Class<?> type) {
        long value = told.startsWith("'") ? told.charAt(1) : Long.decode(told);
        if (type == long.class) {
            return value;
        }
        return (int) value;
    }

    private static void call(AllHome x, Matcher told) throws ReflectiveOperationException {
        Method method = METHODS.get(told.group(1));
        Due.isTrue("there is a call " + told.group(1), method != null);
        String[] numbers = told.group(2).isEmpty() ? new String[0] : told.group(2).split(", ");
        Class<?>[] types = method.getParameterTypes();
        Due.is("numbers of " + told.group(), numbers.length, types.length);
        Object[] given = new Object[types.length];
        for (int k = 0; k < given.length; k++) {
            given[k] = number(numbers[k], types[k]);
        }
        Due.is(told.group(), ((Number) method.invoke(x, given)).longValue(), Long.parseLong(told.group(3)));
    }

    private static int blocks(List<String> lines) throws ReflectiveOperationException {
        boolean inside = false;
        int calls = 0;
        AllHome x = null;
        for (String line : lines) {
            if (line.startsWith("```")) {
                inside = line.equals("```java");
            } else if (inside && line.equals("AllHome x = new AllHome();")) {
                x = new AllHome();
            } else if (inside) {
                Matcher told = CALL.matcher(line);
                Due.isTrue("a call and its answer: " + line, told.matches() && x != null);
                call(x, told);
                calls++;
            }
        }
        return calls;
    }

    private static void namesAll(String text) throws IOException {
        for (String name : METHODS.keySet()) {
            Due.isTrue("README.md names " + name, text.contains(name + "("));
        }
        try (Stream<Path> files = Files.list(Path.of("src/test/java"))) {
            for (Path file : (Iterable<Path>) files.sorted()::iterator) {
                String name = file.getFileName().toString().replace(".java", "");
                Due.isTrue("README.md names " + name, !name.endsWith("Test") || text.contains("`" + name + "`"));
            }
        }
        Due.isTrue("README.md says how to run the tests", text.contains(".ci/run"));
    }

    public static void main(String[] args) throws IOException, ReflectiveOperationException {
        for (Method method : AllHome.class.getDeclaredMethods()) {
            if (Modifier.isPublic(method.getModifiers())) {
                METHODS.put(method.getName(), method);
            }
        }
        Path readme = Path.of("README.md");
        Due.isTrue("calls are shown", blocks(Files.readAllLines(readme)) > 80);
        namesAll(Files.readString(readme));
        Due.end("ReadmeTest");
    }
}
