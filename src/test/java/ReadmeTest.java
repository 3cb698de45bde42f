import java.lang.reflect.Method;
import java.nio.file.Files;
import java.nio.file.Path;
import java.util.HashMap;
import java.util.Map;
import java.util.Set;
import java.util.TreeSet;
import java.util.regex.Matcher;
import java.util.regex.Pattern;

/** Runs the examples of README.md: each call answers the number behind its //, and no call of the face is left out. */
public final class ReadmeTest {
    private static final Path README = Path.of("README.md");
    private static final String NEW = "CurveFoundry f = new CurveFoundry();";
    private static final Pattern CALL = Pattern.compile(
        "(?:int (\\w+) = )?f\\.(\\w+)\\(([^)]*)\\); *// (-?[\\d.]+(?:E-?\\d+)?)(?:: .*)?");

    private static final Map<String, Method> FACE = new HashMap<>();
    private static final Set<String> SHOWN = new TreeSet<>();

    private ReadmeTest() {
    }

    private static Object argument(String told, Class<?> type, Map<String, Integer> names) {
        int number = names.containsKey(told) ? names.get(told) : Integer.parseInt(told);
        return type == long.class ? (Object) (long) number : (Object) number;
    }

    private static void call(String line, CurveFoundry f, Map<String, Integer> names) throws Exception {
        Matcher m = CALL.matcher(line);
        if (!m.matches()) {
            Check.holds("a call with its answer: " + line, false);
            return;
        }
        Method method = FACE.get(m.group(2));
        Check.holds("the face has " + m.group(2), method != null);
        String[] told = m.group(3).isEmpty() ? new String[0] : m.group(3).split(", ");
        Object[] arguments = new Object[told.length];
        for (int i = 0; i < told.length; i++) {
            arguments[i] = argument(told[i], method.getParameterTypes()[i], names);
        }
        Number got = (Number) method.invoke(f, arguments);
        Check.dueExactly(line, got.doubleValue(), Double.parseDouble(m.group(4)));
        SHOWN.add(m.group(2));
        if (m.group(1) != null) {
            names.put(m.group(1), got.intValue());
        }
    }

    private static void example(String text) throws Exception {
        String[] lines = text.split("\n");
        Check.holds("an example begins with a new object", lines[0].equals(NEW));
        CurveFoundry f = new CurveFoundry();
        Map<String, Integer> names = new HashMap<>();
        for (int i = 1; i < lines.length; i++) {
            call(lines[i], f, names);
        }
    }

    public static void main(String[] args) throws Exception {
        for (Method m : CurveFoundry.class.getMethods()) {
            if (m.getDeclaringClass() == CurveFoundry.class) {
                FACE.put(m.getName(), m);
            }
        }
        Matcher m = Pattern.compile("(?s)```java\n(.*?)```").matcher(Files.readString(README));
        int examples = 0;
        while (m.find()) {
            example(m.group(1));
            examples++;
        }
        Check.holds("there are examples", examples > 0);
        Check.holds("the examples show every call: " + SHOWN, SHOWN.equals(FACE.keySet()));
        Check.finish();
    }
}
