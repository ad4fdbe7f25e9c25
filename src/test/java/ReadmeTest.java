import java.io.IOException;
import java.lang.reflect.Field;
import java.lang.reflect.InvocationTargetException;
import java.lang.reflect.Method;
import java.lang.reflect.Modifier;
import java.nio.file.Files;
import java.nio.file.Path;
import java.util.ArrayList;
import java.util.List;
import java.util.Set;
import java.util.TreeSet;
import java.util.regex.Matcher;
import java.util.regex.Pattern;

/** The calls of README.md, each with what stands behind it: an answer, a constant or an exception. */
public final class ReadmeTest {
    private static final Pattern CALL = Pattern.compile("desk\\.(\\w+)\\(([^)]*)\\); *// ([^:]+)(:.*)?");

    private ReadmeTest() {
    }

    public static void main(String[] args) throws IOException, IllegalAccessException {
        Due due = new Due("ReadmeTest");
        RealDesk desk = new RealDesk();
        Set<String> seen = new TreeSet<>();
        for (String line : linesOfUse()) {
            Matcher call = CALL.matcher(line);
            due.isTrue("a call and its answer: " + line, call.matches());
            if (call.matches()) {
                String told = call.group(3);
                due.same(line, outcome(desk, call.group(1), call.group(2).split(", ")), answer(told));
                seen.add(call.group(1));
                seen.add(told);
            }
        }
        for (String name : namesOfFace()) {
            due.isTrue("README.md shows " + name, seen.contains(name));
        }
        due.end();
    }

    private static List<String> linesOfUse() throws IOException {
        List<String> lines = new ArrayList<>();
        for (String line : Files.readAllLines(Path.of("README.md"))) {
            if (line.startsWith("desk.")) {
                lines.add(line);
            }
        }
        return lines;
    }

    private static Set<String> namesOfFace() {
        Set<String> names = new TreeSet<>();
        for (Method method : RealDesk.class.getDeclaredMethods()) {
            if (Modifier.isPublic(method.getModifiers())) {
                names.add(method.getName());
                for (Class<?> thrown : method.getExceptionTypes()) {
                    names.add(thrown.getSimpleName());
                }
            }
        }
        for (Field constant : RealDesk.class.getFields()) {
            names.add(constant.getName());
        }
        return names;
    }

    /** What is told, with a constant's number for its name. */
    private static String answer(String told) throws IllegalAccessException {
        for (Field constant : RealDesk.class.getFields()) {
            if (constant.getName().equals(told)) {
                return Integer.toString(constant.getInt(null));
            }
        }
        return told;
    }

    private static String outcome(RealDesk desk, String name, String[] arguments) throws IllegalAccessException {
        for (Method method : RealDesk.class.getMethods()) {
            if (method.getName().equals(name) && method.getParameterCount() == arguments.length) {
                try {
                    return String.valueOf(method.invoke(desk, parsed(method.getParameterTypes(), arguments)));
                } catch (InvocationTargetException thrown) {
                    return thrown.getCause().getClass().getSimpleName();
                }
            }
        }
        return "no such method";
    }

    private static Object[] parsed(Class<?>[] types, String[] arguments) {
        Object[] all = new Object[arguments.length];
        for (int i = 0; i < all.length; i++) {
            if (types[i] == long.class) {
                all[i] = Long.valueOf(arguments[i]);
            } else {
                all[i] = Integer.valueOf(arguments[i]);
            }
        }
        return all;
    }
}
