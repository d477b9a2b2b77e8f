import java.io.IOException;
import java.lang.reflect.InvocationTargetException;
import java.lang.reflect.Method;
import java.lang.reflect.Modifier;
import java.nio.file.Files;
import java.nio.file.Path;
import java.util.Arrays;
import java.util.Set;
import java.util.TreeSet;
import java.util.regex.Matcher;
import java.util.regex.Pattern;

/** Makes the calls of README.md's example, and looks whether each does what its line says. */
public final class ReadmeTest {
    private static final Pattern CALL = Pattern.compile("desk\\.(\\w+)\\(([-\\d, ]*)\\);(.*)");
    private static final Pattern SAID = Pattern.compile(".*// (answers|throws) (-?\\w+).*");
    private static int wrong = 0;
    private static int calls = 0;

    public static void main(String[] args) throws IOException, IllegalAccessException {
        HouseDesk desk = new HouseDesk();
        Set<String> unused = new TreeSet<>();
        String text = Files.readString(Path.of("README.md"));
        for (Method m : HouseDesk.class.getDeclaredMethods()) {
            if (Modifier.isPublic(m.getModifiers())) {
                unused.add(m.getName());
                need(text.contains("| `" + m.getName() + "("), m.getName() + " is not in the table of calls");
            }
        }
        for (String line : text.split("\n")) {
            Matcher call = CALL.matcher(line);
            if (call.matches()) {
                unused.remove(call.group(1));
                make(desk, call.group(1), call.group(2), call.group(3));
            }
        }
        unused.remove("clear"); // it has nothing to show: the table tells of it
        need(unused.isEmpty(), "the example does not show " + unused);
        System.out.println(calls + " calls, " + wrong + " not as README.md says");
        if (wrong != 0) {
            System.exit(1);
        }
    }

    private static void need(boolean right, String what) {
        if (!right) {
            wrong++;
            System.out.println(what);
        }
    }

    private static void make(HouseDesk desk, String name, String listed, String comment) throws IllegalAccessException {
        calls++;
        Matcher said = SAID.matcher(comment);
        String due = said.matches() ? said.group(2) : "null";
        String got = answer(desk, name, numbers(listed));
        need(got.equals(due), name + "(" + listed + ") gave " + got + ", README.md says " + due);
    }

    private static Object[] numbers(String listed) {
        return listed.isBlank() ? new Object[0] : Arrays.stream(listed.split(", ")).map(Integer::valueOf).toArray();
    }

    /** The answer of a call, "null" if it has none, or the name of what it throws. */
    private static String answer(HouseDesk desk, String name, Object[] numbers) throws IllegalAccessException {
        for (Method m : HouseDesk.class.getMethods()) {
            if (m.getName().equals(name)) {
                try {
                    return String.valueOf(m.invoke(desk, numbers));
                } catch (InvocationTargetException e) {
                    return e.getCause().getClass().getSimpleName();
                }
            }
        }
        return "no such call";
    }
}
