import java.io.IOException;
import java.lang.reflect.Constructor;
import java.lang.reflect.Field;
import java.lang.reflect.Method;
import java.lang.reflect.Modifier;
import java.nio.file.Files;
import java.nio.file.Path;
import java.util.Set;
import java.util.TreeSet;
import java.util.regex.Matcher;
import java.util.regex.Pattern;

/** The rules of LANGUAGE.md that can be seen from outside or in the words of the file; run it from the project's folder. */
public final class LanguageTest {
    private static final Checks CHECKS = new Checks();
    private static final Path SOURCE = Path.of("src/main/java/LawfulLots.java");
    private static final String[] RULED_OUT = {
        "\\b(throw|throws|try|catch|synchronized|assert|native|volatile|transient)\\b", "->", "::", "\\w+Exact\\b",
        "\\bstatic\\s*\\{", "\\bpackage\\b", "\\b(hashCode|finalize|getClass)\\b",
        "\\b(System\\.(?!arraycopy)|Thread|Random|Object)\\b", "\\bprotected\\b",
        "\\[\\]\\s*\\[\\]\\s*\\["
    };

    private static void words() throws IOException {
        String source = Files.readString(SOURCE);
        String code = source.replaceAll("(?s)/\\*.*?\\*/", "").replaceAll("//[^\n]*", "");
        for (String rule : RULED_OUT) {
            Matcher matcher = Pattern.compile(rule).matcher(code);
            CHECKS.due("no " + rule, matcher.find(), false);
        }
        Matcher imports = Pattern.compile("import ([^;]+);").matcher(code);
        while (imports.find()) {
            CHECKS.due("import " + imports.group(1), imports.group(1).equals("java.util.Arrays"), true);
        }
        longestMethod(code);
    }

    private static void longestMethod(String code) {
        int lines = 0;
        boolean inMethod = false;
        for (String line : code.split("\n")) {
            boolean begins = line.matches("( {4}| {8})\\S.*\\) \\{");
            inMethod = inMethod || begins;
            lines = begins ? 0 : lines + 1;
            if (inMethod && line.matches("( {4}| {8})\\}")) {
                CHECKS.due("a method of " + lines + " lines", lines <= 65, true);
                inMethod = false;
            }
        }
    }

    private static void face() {
        Set<String> publicMethods = new TreeSet<>();
        Set<String> otherMethods = new TreeSet<>();
        for (Method method : LawfulLots.class.getDeclaredMethods()) {
            boolean open = Modifier.isPublic(method.getModifiers());
            (open ? publicMethods : otherMethods).add(method.getName());
            CHECKS.due(method + " is public or private", open || Modifier.isPrivate(method.getModifiers()), true);
            CHECKS.due(method + " has few parameters", method.getParameterCount() <= 7, true);
        }
        CHECKS.due("public methods " + publicMethods, publicMethods.size(), 26);
        otherMethods.retainAll(publicMethods);
        CHECKS.due("private methods with a public name " + otherMethods, otherMethods.size(), 0);
        for (Field field : LawfulLots.class.getDeclaredFields()) {
            boolean open = Modifier.isPublic(field.getModifiers());
            CHECKS.due(field + " is public", open, field.getName().equals("NONE"));
            CHECKS.due(field + " is private if not", open || Modifier.isPrivate(field.getModifiers()), true);
        }
        for (Constructor<?> constructor : LawfulLots.class.getDeclaredConstructors()) {
            CHECKS.due(constructor + " is the public one", constructor.getParameterCount(), 0);
        }
        CHECKS.due("public and final", LawfulLots.class.getModifiers(), Modifier.PUBLIC | Modifier.FINAL);
    }

    private static void classesInside() {
        Class<?>[] inside = LawfulLots.class.getDeclaredClasses();
        CHECKS.due("few classes", inside.length <= 11, true);
        for (Class<?> one : inside) {
            CHECKS.due(one + " is static", Modifier.isStatic(one.getModifiers()), true);
            long fields = java.util.Arrays.stream(one.getDeclaredFields()).filter(f -> !Modifier.isStatic(f.getModifiers())).count();
            CHECKS.due(one + " has " + fields + " fields", fields <= 20, true);
        }
    }

    public static void main(String[] args) throws IOException {
        words();
        face();
        classesInside();
        CHECKS.end();
    }
}
