import java.io.IOException;
import java.lang.reflect.InvocationTargetException;
import java.lang.reflect.Method;
import java.lang.reflect.Modifier;
import java.nio.file.Files;
import java.nio.file.Path;
import java.util.Set;
import java.util.TreeSet;
import java.util.regex.Matcher;
import java.util.regex.Pattern;

/** The calls of the example in README.md answer what it says; it is read where the test is run. */
public final class ReadmeTest {
    private static final Pattern CALL = Pattern.compile(
            "x\\.(\\w+)\\(([^)]*)\\); +// (?:throws (\\w+)|(-?\\d+|true|false)): .*");
    private static final Due due = new Due("ReadmeTest");
    private static final ExplainDifference x = new ExplainDifference();
    private static final Set<String> made = new TreeSet<>();

    public static void main(String[] args) throws IOException {
        for (String line : Files.readString(Path.of("README.md")).split("\n")) {
            if (line.startsWith("x.")) {
                answersAsTold(line);
            }
        }
        due.same("calls of the example", callsOfTheFace().toString(), made.toString());
        due.end();
    }

    private static void answersAsTold(String line) {
        Matcher call = CALL.matcher(line);
        if (!call.matches()) {
            due.same(line, "a call with its answer", "something else");
            return;
        }
        made.add(call.group(1));
        String want = call.group(3) == null ? call.group(4) : call.group(3);
        due.same(line, want, answer(call.group(1), call.group(2)));
    }

    private static String answer(String name, String numbers) {
        String[] words = numbers.isEmpty() ? new String[0] : numbers.split(", ");
        Object[] values = new Object[words.length];
        for (int i = 0; i < words.length; i++) {
            values[i] = value(words[i]);
        }
        try {
            return String.valueOf(method(name).invoke(x, values));
        } catch (InvocationTargetException e) {
            return e.getCause().getClass().getSimpleName();
        } catch (IllegalAccessException | IllegalArgumentException e) {
            return "no such call";
        }
    }

    private static Object value(String word) {
        if (word.equals("true") || word.equals("false")) {
            return Boolean.valueOf(word);
        }
        return Integer.valueOf(word);
    }

    private static Method method(String name) {
        for (Method m : ExplainDifference.class.getDeclaredMethods()) {
            if (m.getName().equals(name) && Modifier.isPublic(m.getModifiers())) {
                return m;
            }
        }
        throw new IllegalArgumentException(name);
    }

    private static Set<String> callsOfTheFace() {
        Set<String> names = new TreeSet<>();
        for (Method m : ExplainDifference.class.getDeclaredMethods()) {
            if (Modifier.isPublic(m.getModifiers())) {
                names.add(m.getName());
            }
        }
        return names;
    }
}
