import java.io.IOException;
import java.lang.reflect.Method;
import java.lang.reflect.Modifier;
import java.nio.file.Files;
import java.nio.file.Path;
import java.util.regex.Matcher;
import java.util.regex.Pattern;

/** What README.md shows: each call that it makes answers as it says, and each call of the face is told of. */
public final class ReadmeTests {
    private static final Pattern MADE = Pattern.compile("^x\\.(\\w+)\\(([^)]*)\\);\\s+// (-?\\d+): .*$", Pattern.MULTILINE);
    private static final Pattern ROW = Pattern.compile("^\\| `(\\w+)\\(([^)]*)\\)` \\|.*$", Pattern.MULTILINE);

    private static int passed = 0;
    private static int failed = 0;

    public static void main(String[] args) throws IOException, ReflectiveOperationException {
        String readme = Files.readString(Path.of("README.md"));
        int calls = makeCalls(readme);
        holds("README.md makes calls", calls > 20);
        holds("all of its lines are calls that answer", calls == readme.split("\nx\\.", -1).length - 1);
        lookAtRows(readme);
        System.out.println(passed + " passed, " + failed + " failed");
        if (failed != 0) {
            System.exit(1);
        }
    }

    private static void holds(String what, boolean is) {
        if (is) {
            passed++;
        } else {
            failed++;
            System.out.println(what);
        }
    }

    /** All on one object, as they stand there. */
    private static int makeCalls(String readme) throws ReflectiveOperationException {
        PlayedBack x = new PlayedBack();
        int calls = 0;
        Matcher m = MADE.matcher(readme);
        while (m.find()) {
            int answer = call(x, m.group(1), m.group(2));
            holds(m.group() + " answered " + answer, answer == Integer.parseInt(m.group(3)));
            calls++;
        }
        return calls;
    }

    private static int call(PlayedBack x, String name, String arguments) throws ReflectiveOperationException {
        Method method = methodOf(name);
        Class<?>[] types = method.getParameterTypes();
        String[] words = arguments.isEmpty() ? new String[0] : arguments.split(", ");
        Object[] values = new Object[types.length];
        for (int i = 0; i < types.length; i++) {
            long v = Long.decode(words[i].replace("L", ""));
            if (types[i] == long.class) {
                values[i] = v;
            } else {
                values[i] = (int) v;
            }
        }
        return (Integer) method.invoke(x, values);
    }

    private static Method methodOf(String name) throws NoSuchMethodException {
        for (Method m : PlayedBack.class.getDeclaredMethods()) {
            if (Modifier.isPublic(m.getModifiers()) && m.getName().equals(name)) {
                return m;
            }
        }
        throw new NoSuchMethodException(name);
    }

    /** The table has each call once, with as many arguments as it takes. */
    private static void lookAtRows(String readme) throws NoSuchMethodException {
        int rows = 0;
        Matcher m = ROW.matcher(readme);
        while (m.find()) {
            int arguments = m.group(2).isEmpty() ? 0 : m.group(2).split(", ").length;
            holds(m.group(1) + " takes " + arguments, methodOf(m.group(1)).getParameterCount() == arguments);
            rows++;
        }
        int due = 0;
        for (Method method : PlayedBack.class.getDeclaredMethods()) {
            if (Modifier.isPublic(method.getModifiers())) {
                holds(method.getName() + " is told of", readme.contains("| `" + method.getName() + "("));
                due++;
            }
        }
        holds("each of them once", rows == due);
    }
}
