import java.io.IOException;
import java.lang.reflect.InvocationTargetException;
import java.lang.reflect.Method;
import java.lang.reflect.Modifier;
import java.nio.file.Files;
import java.nio.file.Path;
import java.util.regex.Matcher;
import java.util.regex.Pattern;

/** README.md must be true: its calls are done and its answers looked at, and it tells each call. Run from the project's folder. */
public final class ReadmeTest {
    private static final Pattern EXAMPLE = Pattern.compile("(?s)```java\n(.*?)```");
    private static final Pattern TEXT = Pattern.compile("for \\(char c : \"(.*)\"\\.toCharArray\\(\\)\\) x\\.feed\\(c\\);");
    private static final Pattern CALL = Pattern.compile("x\\.(\\w+)\\((.*)\\); +// (-?\\d+|[A-Z]+)(: .*)?");
    private static int calls = 0;
    private static int wrong = 0;

    public static void main(String[] args) throws IOException, IllegalAccessException {
        String readme = Files.readString(Path.of("README.md"));
        Matcher example = EXAMPLE.matcher(readme);
        if (example.find()) {
            follow(example.group(1));
        } else {
            fail("there is no example");
        }
        for (Method m : StreetTongues.class.getDeclaredMethods()) {
            if (Modifier.isPublic(m.getModifiers()) && !readme.contains("| `" + m.getName() + "(")) fail(m.getName() + " is not told");
        }
        System.out.println(wrong == 0 ? calls + " calls are as README.md says" : wrong + " faults of README.md");
        if (wrong != 0) System.exit(1);
    }

    private static void follow(String example) throws IllegalAccessException {
        StreetTongues x = new StreetTongues();
        for (String line : example.split("\n")) {
            Matcher text = TEXT.matcher(line);
            Matcher call = CALL.matcher(line);
            if (text.matches()) {
                Edges.tell(x, text.group(1));
            } else if (call.matches()) {
                look(line, answer(x, call.group(1), call.group(2)), value(call.group(3)));
            } else if (!line.isEmpty() && !line.equals("StreetTongues x = new StreetTongues();")) {
                fail("a line that cannot be followed: " + line);
            }
        }
    }

    private static void look(String line, int got, int due) {
        calls++;
        if (got != due) fail(line + " answered " + got);
    }

    private static int answer(StreetTongues x, String name, String list) throws IllegalAccessException {
        String[] values = list.isEmpty() ? new String[0] : list.split(", ");
        for (Method m : StreetTongues.class.getDeclaredMethods()) {
            if (!m.getName().equals(name) || m.getParameterCount() != values.length) continue;
            Object[] given = new Object[values.length];
            for (int p = 0; p < given.length; p++) {
                given[p] = m.getParameterTypes()[p] == boolean.class ? Boolean.valueOf(values[p]) : (Object) value(values[p]);
            }
            try {
                return (Integer) m.invoke(x, given);
            } catch (InvocationTargetException e) {
                fail(name + " threw " + e.getCause());
            }
        }
        fail("there is no " + name + "(" + list + ")");
        return 0;
    }

    private static int value(String s) {
        switch (s) {
            case "NONE": return StreetTongues.NONE;
            case "UNKNOWN": return StreetTongues.UNKNOWN;
            case "OUTSIDE": return StreetTongues.OUTSIDE;
            case "NOT": return StreetTongues.NOT;
            case "FULL": return StreetTongues.FULL;
            default: return Integer.parseInt(s);
        }
    }

    private static void fail(String what) {
        wrong++;
        System.out.println(what);
    }
}
