import java.io.IOException;
import java.lang.reflect.InvocationTargetException;
import java.lang.reflect.Method;
import java.nio.file.Files;
import java.nio.file.Path;
import java.util.List;
import java.util.regex.Matcher;
import java.util.regex.Pattern;

/** README.md's examples, run as they stand there: each call answers what is written behind it. */
public final class ReadmeTest {
    private static final Pattern CALL = Pattern.compile("bench\\.(\\w+)\\(([^)]*)\\);\\s*// (true|false|-?\\d+)?.*");

    private final Due due = new Due();
    private GrowingTiles bench = null;
    private int blocks = 0;

    public static void main(String[] args) throws IOException, ReflectiveOperationException {
        ReadmeTest test = new ReadmeTest();
        test.run(Files.readAllLines(Path.of("README.md")));
        test.due.is("examples in README.md", test.blocks, 3);
        test.due.end();
    }

    private void run(List<String> lines) throws ReflectiveOperationException {
        boolean inside = false;
        for (String line : lines) {
            if (line.startsWith("```")) {
                inside = line.equals("```java");
            } else if (inside && line.equals("GrowingTiles bench = new GrowingTiles();")) {
                bench = new GrowingTiles();
                blocks++;
            } else if (inside) {
                ask(line);
            }
        }
    }

    private void ask(String line) throws ReflectiveOperationException {
        Matcher call = CALL.matcher(line);
        boolean isCall = call.matches();
        due.is("a call and its answer: " + line, isCall, true);
        if (!isCall) {
            return;
        }
        String[] numbers = call.group(2).isEmpty() ? new String[0] : call.group(2).split(", ");
        Method method = named(call.group(1), numbers.length);
        due.is("a call of the class: " + line, method != null, true);
        if (method == null) {
            return;
        }
        boolean tells = method.getReturnType() != void.class;
        due.is("an answer where there is one: " + line, call.group(3) != null, tells);
        String got = String.valueOf(answer(method, numbers));
        boolean same = !tells || got.equals(call.group(3));
        due.is(line + " (answered " + got + ")", same, true);
    }

    private static Method named(String name, int parameters) {
        for (Method method : GrowingTiles.class.getMethods()) {
            if (method.getName().equals(name) && method.getParameterCount() == parameters) {
                return method;
            }
        }
        return null;
    }

    private Object answer(Method method, String[] numbers) throws IllegalAccessException, InvocationTargetException {
        Class<?>[] types = method.getParameterTypes();
        Object[] given = new Object[numbers.length];
        for (int i = 0; i < numbers.length; i++) {
            long number = Long.decode(numbers[i]);
            given[i] = types[i] == long.class ? (Object) number : (Object) (int) number;
        }
        return method.invoke(bench, given);
    }
}
