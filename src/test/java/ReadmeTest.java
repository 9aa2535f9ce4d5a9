import java.lang.reflect.InvocationTargetException;
import java.lang.reflect.Method;
import java.lang.reflect.Modifier;
import java.nio.file.Files;
import java.nio.file.Path;
import java.util.regex.Matcher;
import java.util.regex.Pattern;

/** README.md names every call, and its examples, one run on one object, answer as it says. */
public final class ReadmeTest {
    private static final Pattern CALL = Pattern.compile("x\\.(\\w+)\\((.*?)\\);\\s*(?:// (throws \\w+|-?\\d+|true|false)(?:: .*)?)?");

    private static TillTheBell x;
    private static int calls = 0;

    public static void main(String[] args) throws Exception {
        boolean inside = false;
        String readme = Files.readString(Path.of("README.md"));
        for (String line : readme.split("\n")) {
            if (line.startsWith("```")) {
                inside = line.equals("```java");
            } else if (inside) {
                runLine(line);
            }
        }
        Check.yes("more than 60 calls in the examples", calls > 60);
        for (Method m : TillTheBell.class.getDeclaredMethods()) {
            Check.yes("README.md tells of " + m.getName(), !Modifier.isPublic(m.getModifiers()) || readme.contains("`" + m.getName() + "("));
        }
        Check.end("ReadmeTest");
    }

    private static void runLine(String line) throws Exception {
        if (line.equals("TillTheBell x = new TillTheBell();")) {
            x = new TillTheBell();
            return;
        }
        Matcher m = CALL.matcher(line);
        if (m.matches()) {
            String answer = answer(m.group(1), m.group(2).isEmpty() ? new String[0] : m.group(2).split(", "));
            String due = m.group(3) == null ? "nothing" : m.group(3);
            Check.yes(line + " answered " + answer, answer.equals(due));
            calls++;
        } else {
            Check.yes("an example that can be run: " + line, line.startsWith("// "));
        }
    }

    private static String answer(String name, String[] told) throws Exception {
        for (Method m : TillTheBell.class.getDeclaredMethods()) {
            if (m.getName().equals(name) && Modifier.isPublic(m.getModifiers()) && m.getParameterCount() == told.length) {
                return answer(m, told);
            }
        }
        return "no such call";
    }

    private static String answer(Method m, String[] told) throws Exception {
        Object[] args = new Object[told.length];
        for (int i = 0; i < args.length; i++) {
            long v = Long.decode(told[i]);
            args[i] = m.getParameterTypes()[i] == long.class ? (Object) v : (Object) (int) v;
        }
        try {
            Object got = m.invoke(x, args);
            return m.getReturnType() == void.class ? "nothing" : String.valueOf(got);
        } catch (InvocationTargetException e) {
            return "throws " + e.getCause().getClass().getSimpleName();
        }
    }
}
