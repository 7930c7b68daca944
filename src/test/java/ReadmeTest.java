import java.io.IOException;
import java.lang.reflect.InvocationTargetException;
import java.lang.reflect.Method;
import java.lang.reflect.Modifier;
import java.nio.file.Files;
import java.nio.file.Path;
import java.util.TreeSet;
import java.util.regex.Matcher;
import java.util.regex.Pattern;

/** Makes the calls of README.md, in their order, on one object: each answers the number behind it. */
public final class ReadmeTest {
    private static final Pattern CALL = Pattern.compile("x\\.(\\w+)\\(([^)]*)\\);\\s*// (-?\\d+)(?!\\d).*");
    private static int looked = 0;
    private static int wrong = 0;

    public static void main(String[] args) throws IOException, ReflectiveOperationException {
        PlateLast x = new PlateLast();
        TreeSet<String> left = new TreeSet<>();
        for (Method method : PlateLast.class.getDeclaredMethods()) {
            if (Modifier.isPublic(method.getModifiers())) {
                left.add(method.getName());
            }
        }
        for (String line : Files.readAllLines(Path.of("README.md"))) {
            if (line.startsWith("x.")) {
                left.remove(call(x, line));
            }
        }
        if (!left.isEmpty()) {
            say("README.md has no call of " + left);
        }
        System.out.println(looked + " calls of README.md, " + wrong + " wrong");
        if (wrong != 0) {
            System.exit(1);
        }
    }

    private static void say(String fault) {
        wrong++;
        System.out.println(fault);
    }

    private static String call(PlateLast x, String line) throws ReflectiveOperationException {
        Matcher parts = CALL.matcher(line);
        if (!parts.matches()) {
            say("this is no call with its answer: " + line);
            return "";
        }
        looked++;
        Method method = named(parts.group(1));
        if (method == null) {
            say("there is no such call: " + line);
            return "";
        }
        long got = answer(x, method, parts.group(2));
        if (got != Long.parseLong(parts.group(3))) {
            say(line + " answered " + got);
        }
        return method.getName();
    }

    private static Method named(String name) {
        for (Method method : PlateLast.class.getDeclaredMethods()) {
            if (method.getName().equals(name)) {
                return method;
            }
        }
        return null;
    }

    private static long answer(PlateLast x, Method method, String told)
            throws IllegalAccessException, InvocationTargetException {
        String[] words = told.isEmpty() ? new String[0] : told.split(", ");
        Class<?>[] kinds = method.getParameterTypes();
        Object[] values = new Object[words.length];
        for (int i = 0; i < words.length && i < kinds.length; i++) {
            if (kinds[i] == boolean.class) {
                values[i] = Boolean.valueOf(words[i]);
            } else if (kinds[i] == int.class) {
                values[i] = Integer.decode(words[i]);
            } else {
                values[i] = Long.decode(words[i]);
            }
        }
        return ((Number) method.invoke(x, values)).longValue();
    }
}
