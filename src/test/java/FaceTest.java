import java.io.IOException;
import java.lang.reflect.Constructor;
import java.lang.reflect.Field;
import java.lang.reflect.Method;
import java.lang.reflect.Modifier;
import java.nio.file.Files;
import java.nio.file.Path;
import java.util.Arrays;
import java.util.List;
import java.util.Set;
import java.util.TreeSet;
import java.util.regex.Matcher;
import java.util.regex.Pattern;

/** The document's public face, and those rules of LANGUAGE.md that can be read off the class. */
public final class FaceTest {
    private static final String[] FACE = {
        "void room(int, int, int) IllegalArgumentException IllegalStateException",
        "int join(int, int) IllegalArgumentException IllegalStateException",
        "void corners(int, int, int, int) IllegalArgumentException",
        "void least(int, int, int) IllegalArgumentException",
        "void wall(int, int) IllegalArgumentException",
        "void clear()",
        "int plan()",
        "int witness(int)",
        "int rect(int, int) NoSuchElementException IllegalArgumentException",
        "int house(int) NoSuchElementException IllegalArgumentException",
        "int wallOf(int, int) NoSuchElementException IllegalArgumentException",
        "int side(int, int) NoSuchElementException IllegalArgumentException",
        "int way(int, int) IllegalArgumentException",
        "int wayRoom(int)",
        "int count(int)",
    };
    private static int wrong = 0;

    public static void main(String[] args) throws IOException {
        face();
        inside();
        source();
        methods();
        System.out.println(wrong == 0 ? "the face is as due" : wrong + " faults");
        if (wrong != 0) {
            System.exit(1);
        }
    }

    private static void need(boolean right, String what) {
        if (!right) {
            wrong++;
            System.out.println(what);
        }
    }

    private static String written(Method m) {
        StringBuilder text = new StringBuilder();
        text.append(m.getReturnType().getSimpleName()).append(' ').append(m.getName()).append('(');
        for (int k = 0; k < m.getParameterCount(); k++) {
            text.append(k == 0 ? "" : ", ").append(m.getParameterTypes()[k].getSimpleName());
        }
        text.append(')');
        for (Class<?> e : m.getExceptionTypes()) {
            text.append(' ').append(e.getSimpleName());
        }
        return text.toString();
    }

    private static void face() {
        Set<String> got = new TreeSet<>();
        for (Method m : HouseDesk.class.getDeclaredMethods()) {
            if (!Modifier.isPrivate(m.getModifiers())) {
                need(Modifier.isPublic(m.getModifiers()), m + " is not public");
                got.add(written(m));
            }
        }
        need(got.equals(new TreeSet<>(Arrays.asList(FACE))), "the methods are " + got);
        Constructor<?>[] made = HouseDesk.class.getDeclaredConstructors();
        need(made.length == 1 && Modifier.isPublic(made[0].getModifiers()) && made[0].getParameterCount() == 0, "constructors");
        for (Field f : HouseDesk.class.getDeclaredFields()) {
            need(Modifier.isPrivate(f.getModifiers()), f + " is not private");
        }
        need(Modifier.isFinal(HouseDesk.class.getModifiers()), "the class is not final");
    }

    private static void inside() {
        Set<String> names = new TreeSet<>();
        for (String m : FACE) {
            names.add(m.substring(m.indexOf(' ') + 1, m.indexOf('(')));
        }
        Class<?>[] classes = HouseDesk.class.getDeclaredClasses();
        need(classes.length + 1 <= 12, "too many classes");
        for (Class<?> c : classes) {
            need(Modifier.isStatic(c.getModifiers()), c + " is not static");
            need(!Modifier.isPublic(c.getModifiers()), c + " is public");
            for (Method m : c.getDeclaredMethods()) {
                need(!names.contains(m.getName()), m + " has a name of the face");
                need(m.getParameterCount() <= 7, m + " has too many parameters");
            }
            int fields = 0;
            for (Field f : c.getDeclaredFields()) {
                need(!Modifier.isStatic(f.getModifiers()) || Modifier.isFinal(f.getModifiers()), f + " is static state");
                fields += Modifier.isStatic(f.getModifiers()) ? 0 : 1;
            }
            need(fields <= 20, c + " has too many fields");
        }
    }

    /** What is made is made once, with the object: no call makes a row or an object. */
    private static void source() throws IOException {
        List<String> lines = Files.readAllLines(Path.of("src/main/java/HouseDesk.java"));
        for (int k = 0; k < lines.size(); k++) {
            String line = lines.get(k).trim();
            boolean comment = line.startsWith("*") || line.startsWith("/*");
            boolean makes = !comment && line.contains("new ");
            boolean allowed = line.startsWith("throw new ") || line.contains("final ") || line.matches("[a-zA-Z]+ = new [A-Z].*");
            need(!makes || allowed, "line " + (k + 1) + " makes something: " + line);
            need(comment || !line.contains("->") && !line.contains("::"), "line " + (k + 1) + " has a lambda");
            need(!line.startsWith("import ") || line.equals("import java.util.NoSuchElementException;"), line);
        }
    }

    /** The library's functions that LANGUAGE.md lists, and methods that stay short. */
    private static void methods() throws IOException {
        List<String> lines = Files.readAllLines(Path.of("src/main/java/HouseDesk.java"));
        Pattern library = Pattern.compile("\\b(Integer|Long|Math|Arrays|System|String|Character|Objects)\\.\\w+");
        Pattern opening = Pattern.compile("( +)[^/*].*\\) (throws [\\w, ]+ )?\\{");
        for (int k = 0; k < lines.size(); k++) {
            Matcher used = library.matcher(lines.get(k));
            while (used.find()) {
                need(Set.of("Math.min", "Math.max", "Integer.bitCount").contains(used.group()), used.group() + " is used");
            }
            Matcher begun = opening.matcher(lines.get(k));
            if (begun.matches()) {
                int end = lines.subList(k, lines.size()).indexOf(begun.group(1) + "}");
                need(end < 60, "line " + (k + 1) + " begins what is too long");
            }
        }
    }
}
