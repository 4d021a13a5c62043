import java.io.IOException;
import java.lang.reflect.InvocationTargetException;
import java.lang.reflect.Method;
import java.lang.reflect.Modifier;
import java.nio.file.Files;
import java.nio.file.Path;
import java.util.HashMap;
import java.util.Map;
import java.util.regex.Matcher;
import java.util.regex.Pattern;

/** README.md: its examples answer what is written behind them, and its table names every call of the face. */
public final class ReadmeTest {
    private static final Pattern MADE = Pattern.compile("SixWayGas gas = new SixWayGas\\((\\d+), (\\d+)\\);");
    private static final Pattern CALL =
            Pattern.compile("(?:int (\\w+) = )?gas\\.(\\w+)\\(([^)]*)\\);(?: +// ([^:]+)(?:: .*)?)?");

    private final Expect expect;
    private final Map<String, String> named = new HashMap<>();
    private SixWayGas gas = new SixWayGas(8, 8);

    private ReadmeTest(Expect expect) {
        this.expect = expect;
    }

    public static void main(String[] args) throws IOException, ReflectiveOperationException {
        Expect expect = new Expect();
        String readme = Files.readString(Path.of("README.md"));
        String[] parts = readme.split("(?m)^```");
        int examples = 0;
        for (String part : parts) {
            if (part.startsWith("java\n")) {
                new ReadmeTest(expect).example(part.substring(5));
                examples++;
            }
        }
        expect.equal("examples", examples, 2);
        for (Method method : SixWayGas.class.getDeclaredMethods()) {
            if (Modifier.isPublic(method.getModifiers())) {
                String row = "\n| `" + method.getName() + "(";
                expect.equal("the table names " + method.getName(), readme.contains(row), true);
            }
        }
        expect.end();
    }

    private void example(String lines) throws ReflectiveOperationException {
        for (String line : lines.split("\n")) {
            Matcher made = MADE.matcher(line);
            Matcher call = CALL.matcher(line);
            if (made.matches()) {
                gas = new SixWayGas(Integer.parseInt(made.group(1)), Integer.parseInt(made.group(2)));
            } else if (call.matches()) {
                String answer = answer(call.group(2), call.group(3).split(", "));
                expect.same(line, answer, call.group(4) == null ? "null" : call.group(4));
                named.put(call.group(1), answer);
            } else {
                expect.same("a line that is neither", line, "");
            }
        }
    }

    private String answer(String name, String[] words) throws ReflectiveOperationException {
        for (Method method : SixWayGas.class.getMethods()) {
            if (method.getName().equals(name)) {
                try {
                    return String.valueOf(method.invoke(gas, values(method.getParameterTypes(), words)));
                } catch (InvocationTargetException e) {
                    return "throws " + e.getCause().getClass().getSimpleName();
                }
            }
        }
        return "there is no " + name;
    }

    private Object[] values(Class<?>[] types, String[] words) {
        Object[] values = new Object[types.length];
        for (int i = 0; i < types.length; i++) {
            String word = named.getOrDefault(words[i], words[i]);
            if (types[i] == boolean.class) {
                values[i] = Boolean.valueOf(word);
            } else {
                values[i] = Integer.valueOf(word);
            }
        }
        return values;
    }
}
