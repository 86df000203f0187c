import java.io.IOException;
import java.lang.reflect.InvocationTargetException;
import java.lang.reflect.Method;
import java.lang.reflect.Modifier;
import java.nio.file.Files;
import java.nio.file.Path;
import java.util.HashMap;
import java.util.Map;
import java.util.Set;
import java.util.TreeSet;
import java.util.regex.Matcher;
import java.util.regex.Pattern;

/** The example in README.md answers what its comments say, and uses every call of the face. */
public final class ReadmeTest {
    private static final String MAKING = "SameTerms x = new SameTerms();";
    private static final Pattern CALL = Pattern.compile("(?:int (\\w+) = )?x\\.(\\w+)\\((.*)\\);\\s*// (-?\\w+).*");
    private static final Map<String, Long> ANSWERS = Map.of(
        "NONE", (long) SameTerms.NONE, "BAD", (long) SameTerms.BAD, "FULL", (long) SameTerms.FULL);

    private final Check check = new Check();
    private final SameTerms x = new SameTerms();
    private final Map<String, Long> names = new HashMap<>();
    private final Set<String> used = new TreeSet<>();

    private ReadmeTest() {
        names.put("SameTerms.NONE", (long) SameTerms.NONE);
    }

    public static void main(String[] args) throws IOException, ReflectiveOperationException {
        new ReadmeTest().run(Files.readString(Path.of("README.md")));
    }

    private void run(String readme) throws ReflectiveOperationException {
        for (String line : example(readme).split("\n")) {
            if (!line.isBlank() && !line.equals(MAKING)) {
                call(line);
            }
        }
        for (Method m : SameTerms.class.getDeclaredMethods()) {
            if (Modifier.isPublic(m.getModifiers())) {
                check.due("README.md: the example uses " + m.getName(), used.contains(m.getName()) ? 1 : 0, 1);
            }
        }
        check.end();
    }

    private static String example(String readme) {
        String begin = "```java\n" + MAKING;
        int from = readme.indexOf(begin);
        int to = from < 0 ? -1 : readme.indexOf("\n```", from);
        if (to < 0) {
            throw new IllegalStateException("README.md has no example that begins with " + MAKING);
        }
        return readme.substring(from + begin.length(), to);
    }

    private void call(String line) throws ReflectiveOperationException {
        Matcher parts = CALL.matcher(line);
        if (!parts.matches()) {
            throw new IllegalStateException("README.md: no call with an answer: " + line);
        }
        String[] inputs = parts.group(3).isEmpty() ? new String[0] : parts.group(3).split(", ");
        int got = answer(parts.group(2), inputs);
        check.due("README.md: " + line, got, value(ANSWERS, parts.group(4)));
        used.add(parts.group(2));
        if (parts.group(1) != null) {
            names.put(parts.group(1), (long) got);
        }
    }

    private int answer(String name, String[] inputs) throws ReflectiveOperationException {
        for (Method m : SameTerms.class.getMethods()) {
            if (m.getName().equals(name) && m.getParameterCount() == inputs.length) {
                return invoke(m, inputs);
            }
        }
        throw new IllegalStateException("README.md: no such call: " + name);
    }

    private int invoke(Method m, String[] inputs) throws IllegalAccessException, InvocationTargetException {
        Object[] values = new Object[inputs.length];
        for (int i = 0; i < inputs.length; i++) {
            long value = value(names, inputs[i]);
            if (m.getParameterTypes()[i] == long.class) {
                values[i] = value;
            } else {
                values[i] = (int) value;
            }
        }
        return (int) m.invoke(x, values);
    }

    private static long value(Map<String, Long> known, String text) {
        Long named = known.get(text);
        return named != null ? named : Long.parseLong(text.endsWith("L") ? text.substring(0, text.length() - 1) : text);
    }
}
