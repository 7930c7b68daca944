import java.io.IOException;
import java.lang.reflect.Constructor;
import java.lang.reflect.Field;
import java.lang.reflect.Member;
import java.lang.reflect.Method;
import java.lang.reflect.Modifier;
import java.nio.file.Files;
import java.nio.file.Path;
import java.util.ArrayList;
import java.util.Arrays;
import java.util.List;
import java.util.TreeSet;
import java.util.regex.Matcher;
import java.util.regex.Pattern;

/** The face of the document by reflection, and of LANGUAGE.md what can be seen in the source by its words. */
public final class LanguageTest {
    private static final String SOURCE = "src/main/java/PlateLast.java";
    private static final String[] FACE = {
        "int write(int, long)", "int wipe()", "int fault()", "int table()", "int chance(int, int)", "int begin(int)",
        "int hand(int)", "int back()", "long at(int, int, boolean)", "long all(int, boolean)",
        "long last(int, int, boolean)", "int sit(int)", "long end(int, boolean)", "long mean(int, int, boolean)",
        "long round(int, int, boolean)", "long meet(int, int, int, boolean)", "long penny(int, int, int, boolean)",
        "int judge(int, int)", "long likely(int, int, boolean)", "int see(int, int)", "int unsee()", "int ways(int)",
        "int likeliest(int)", "int rule()", "long seed(long)", "int evening()", "int uncle(int, int)", "int keep(int)",
        "int again(int)", "int count(int)"};
    private static final String[] CONSTANTS = {"FULL = -4", "NONE = -9", "OUTSIDE = -2", "STATE = -3", "UNKNOWN = -1"};
    private static final String[] BARRED = {
        "\\bthrow\\b", "\\bthrows\\b", "\\btry\\b", "\\bcatch\\b", "\\bfinally\\b", "\\bsynchronized\\b", "\\bassert\\b",
        "\\bimport\\b", "\\bpackage\\b", "->", "::", "Exact\\b", "\\bSystem\\.(?!arraycopy)", "\\bvar\\b", "\\bObject\\b",
        "\\bequals\\b", "\\bhashCode\\b", "\\btoString\\b", "\\bprotected\\b", "\\bstatic\\s*\\{", "\\bMath\\.(?!max|min|abs)",
        "\\bdouble\\b", "\\bfloat\\b", "\\bwhile\\s*\\(true\\)", "for\\s*\\(;;\\)", "@"};
    private static int wrong = 0;

    public static void main(String[] args) throws IOException {
        face();
        constants();
        nested();
        String source = bare(Files.readString(Path.of(SOURCE)));
        words(source);
        divisors(source);
        made(source);
        System.out.println("the face and the language: " + wrong + " wrong");
        if (wrong != 0) {
            System.exit(1);
        }
    }

    private static void say(String fault) {
        wrong++;
        System.out.println(fault);
    }

    private static void face() {
        TreeSet<String> open = new TreeSet<>();
        TreeSet<String> names = new TreeSet<>();
        for (Method method : PlateLast.class.getDeclaredMethods()) {
            if (!Modifier.isPrivate(method.getModifiers())) {
                open.add(told(method));
                names.add(method.getName());
                if (!Modifier.isPublic(method.getModifiers()) || Modifier.isStatic(method.getModifiers())) {
                    say(told(method) + " is not public, or static");
                }
            }
        }
        if (!open.equals(new TreeSet<>(Arrays.asList(FACE)))) {
            say("the methods that can be seen are " + open);
        }
        List<Class<?>> all = new ArrayList<>(Arrays.asList(PlateLast.class.getDeclaredClasses()));
        all.add(PlateLast.class);
        for (Class<?> one : all) {
            for (Method method : one.getDeclaredMethods()) {
                boolean ofFace = one == PlateLast.class && Modifier.isPublic(method.getModifiers());
                if (!ofFace && names.contains(method.getName())) {
                    say(one.getName() + "." + method.getName() + " bears the name of a public method");
                }
                if (method.getParameterCount() > 7) {
                    say(method.getName() + " takes more than seven");
                }
            }
        }
        Constructor<?>[] constructors = PlateLast.class.getDeclaredConstructors();
        if (constructors.length != 1 || constructors[0].getParameterCount() != 0
                || !Modifier.isPublic(constructors[0].getModifiers())) {
            say("there is not the one constructor");
        }
        if (PlateLast.class.getModifiers() != (Modifier.PUBLIC | Modifier.FINAL)) {
            say("the class is not public and final alone");
        }
    }

    private static String told(Method method) {
        StringBuilder text = new StringBuilder();
        for (Class<?> kind : method.getParameterTypes()) {
            text.append(text.length() > 0 ? ", " : "").append(kind.getName());
        }
        return method.getReturnType().getName() + " " + method.getName() + "(" + text + ")";
    }

    private static void constants() {
        TreeSet<String> open = new TreeSet<>();
        for (Field field : PlateLast.class.getDeclaredFields()) {
            if (!Modifier.isPrivate(field.getModifiers())) {
                open.add(field.getName() + " = " + value(field));
                int want = Modifier.PUBLIC | Modifier.STATIC | Modifier.FINAL;
                if (field.getModifiers() != want || field.getType() != int.class) {
                    say(field.getName() + " is no public constant of int");
                }
            }
        }
        if (!open.equals(new TreeSet<>(Arrays.asList(CONSTANTS)))) {
            say("the constants are " + open);
        }
    }

    private static String value(Field field) {
        try {
            return String.valueOf(field.get(null));
        } catch (IllegalAccessException | NullPointerException e) {
            return "not to be had";
        }
    }

    private static void nested() {
        Class<?>[] inside = PlateLast.class.getDeclaredClasses();
        if (inside.length + 1 > 12) {
            say("there are " + (inside.length + 1) + " classes");
        }
        List<Member> fields = new ArrayList<>();
        for (Class<?> one : inside) {
            int modifiers = one.getModifiers();
            if (!Modifier.isStatic(modifiers) || Modifier.isPublic(modifiers) || Modifier.isProtected(modifiers)) {
                say(one.getName() + " is not static, or can be seen");
            }
            fields.addAll(Arrays.asList(one.getDeclaredFields()));
        }
        fields.addAll(Arrays.asList(PlateLast.class.getDeclaredFields()));
        for (Member field : fields) {
            if (Modifier.isStatic(field.getModifiers()) && !Modifier.isFinal(field.getModifiers())) {
                say(field.getName() + " is static and not final");
            }
        }
    }

    private static String bare(String source) {
        return source.replaceAll("(?s)/\\*.*?\\*/", "").replaceAll("//[^\n]*", "").replaceAll("'(\\\\.|[^'])'", "' '");
    }

    private static void words(String source) {
        for (String barred : BARRED) {
            Matcher found = Pattern.compile(barred).matcher(source);
            if (found.find()) {
                say("the source has " + found.group());
            }
        }
        int begun = 0;
        String[] lines = source.split("\n");
        for (int i = 0; i < lines.length; i++) {
            if (lines[i].matches("    (    )?\\S.*\\(.*\\) \\{")) {
                begun = i;
            }
            if (lines[i].matches("    (    )?\\}") && i - begun > 60) {
                say("the method in line " + begun + " is longer than sixty lines");
                begun = i;
            }
        }
    }

    /** A divisor is a constant, or a name that a line of the same method compares before it divides. */
    private static void divisors(String source) {
        Matcher found = Pattern.compile("[/%]=?\\s*([\\w(.\\[]+)").matcher(source);
        while (found.find()) {
            String divisor = found.group(1);
            if (divisor.matches("[A-Z][A-Z_]*|[1-9]\\d*")) {
                continue;
            }
            // an empty line stands between two methods, and none inside one
            int begun = source.lastIndexOf("\n\n", found.start());
            String ahead = source.substring(Math.max(begun, 0), found.start());
            if (!divisor.matches("\\w+") || !ahead.matches("(?s).*\\b" + divisor + " (<|==|!=) [01]\\b.*")) {
                say("nothing looks at the divisor " + divisor + " before it divides");
            }
        }
    }

    /** Objects are made in the constructor and where fields are told, in no call. */
    private static void made(String source) {
        int inside = source.indexOf("private static final class");
        int constructor = source.indexOf("public PlateLast() {");
        int behind = source.indexOf("\n    }", constructor);
        if (constructor < 0 || behind < 0 || inside < behind) {
            say("the constructor does not stand ahead of the classes inside");
            return;
        }
        if (source.substring(0, constructor).contains(" new ") || source.substring(behind, inside).contains(" new ")) {
            say("a method of the face makes an object");
        }
        for (String line : source.substring(inside).split("\n")) {
            if (line.matches(" {12,}.*\\bnew\\b.*")) {
                say("a method inside makes an object: " + line.trim());
            }
        }
    }
}
