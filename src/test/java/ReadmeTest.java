import java.io.IOException;
import java.lang.reflect.Method;
import java.lang.reflect.Modifier;
import java.nio.file.Files;
import java.nio.file.Path;
import java.util.Arrays;
import java.util.Set;
import java.util.TreeSet;
import java.util.regex.Matcher;
import java.util.regex.Pattern;

/** The example of README.md: each call is made as it is told there and must answer what stands behind its arrow. */
public final class ReadmeTest {
    private static final Pattern CALL = Pattern.compile("x\\.(\\w+)\\((.*?)\\); *// -> (\\S+).*");
    private static final String FIRST_LINE = "ParserForge x = new ParserForge();";

    private static int wrong = 0;

    public static void main(String[] args) throws ReflectiveOperationException, IOException {
        String readme = Files.readString(Path.of("README.md"));
        Matcher example = Pattern.compile("(?s)```java\n(.*?)```").matcher(readme);
        mustHold(example.find(), "there is an example");
        Set<String> unused = new TreeSet<>();
        for (Method m : ParserForge.class.getDeclaredMethods()) {
            if (Modifier.isPublic(m.getModifiers())) {
                mustHold(readme.contains("| `" + m.getName() + "("), m.getName() + " is told in a row of the table");
                unused.add(m.getName());
            }
        }
        ParserForge x = new ParserForge();
        for (String line : example.group(1).lines().toList()) {
            Matcher call = CALL.matcher(line);
            if (call.matches()) {
                unused.remove(call.group(1));
                String got = answer(x, call.group(1), call.group(2));
                String want = constantOr(call.group(3));
                mustHold(got.equals(want), line + " (it answered " + got + ")");
            } else {
                mustHold(line.isEmpty() || line.equals(FIRST_LINE), "a call with its answer: " + line);
            }
        }
        mustHold(unused.equals(Set.of("clear", "retract")), "all but two calls are shown, not shown: " + unused);
        System.exit(wrong == 0 ? 0 : 1);
    }

    private static void mustHold(boolean holds, String what) {
        if (!holds) {
            wrong++;
            System.out.println("does not hold: " + what);
        }
    }

    private static String answer(ParserForge x, String name, String arguments) throws ReflectiveOperationException {
        String[] given = arguments.isEmpty() ? new String[0] : arguments.split(", ");
        Object[] values = new Object[given.length];
        Class<?>[] types = new Class<?>[given.length];
        for (int i = 0; i < given.length; i++) {
            boolean truth = given[i].equals("true") || given[i].equals("false");
            types[i] = truth ? boolean.class : int.class;
            values[i] = truth ? (Object) Boolean.valueOf(given[i]) : Integer.valueOf(given[i]);
        }
        return ParserForge.class.getMethod(name, types).invoke(x, values).toString();
    }

    private static String constantOr(String word) throws ReflectiveOperationException {
        boolean named = Arrays.stream(ParserForge.class.getFields()).anyMatch(f -> f.getName().equals(word));
        return named ? ParserForge.class.getField(word).get(null).toString() : word;
    }
}
