import java.io.IOException;
import java.lang.reflect.Constructor;
import java.lang.reflect.Field;
import java.lang.reflect.Method;
import java.lang.reflect.Modifier;
import java.nio.file.Files;
import java.nio.file.Path;
import java.util.Set;
import java.util.TreeSet;
import java.util.regex.Matcher;
import java.util.regex.Pattern;

/** The face, as rule 1 of LANGUAGE.md wants it, and words that its rules leave out; run it from the project's folder. */
public final class LanguageTest {
    private static final Checks CHECKS = new Checks();
    private static final Path SOURCE = Path.of("src/main/java/LawfulLots.java");
    private static final String[] RULED_OUT = {
        "\\b(throw|throws|try|catch|synchronized|assert|native|volatile|transient)\\b", "->", "::", "\\w+Exact\\b",
        "\\bstatic\\s*\\{", "\\bpackage\\b", "\\b(hashCode|finalize|getClass)\\b",
        "\\b(System\\.(?!arraycopy)|Thread|Random|Object)\\b", "\\bprotected\\b",
        "\\[\\]\\s*\\[\\]\\s*\\["
    };

    private static final Set<String> FACE = Set.of("int feed(int,int,int,int,int)", "int back(int)", "int read()", "int place()",
        "boolean turn(int,boolean)", "int lawful()", "int kept()", "int value(int,int)", "int share(int)", "int sum()",
        "int pick(int)", "int draw(long,int)", "int quarrel()", "int alone(int)", "int meets(int)", "int cross(int,int)",
        "int hits(int)", "int fill()", "int fills(int)", "int best()", "int least(int)", "int logged(int,int)",
        "int fallen(int)", "long rows(int)", "int row(int,long,int)", "int count(int)");

    private static void words() throws IOException {
        String source = Files.readString(SOURCE);
        String code = source.replaceAll("(?s)/\\*.*?\\*/", "").replaceAll("//[^\n]*", "");
        for (String rule : RULED_OUT) {
            Matcher matcher = Pattern.compile(rule).matcher(code);
            CHECKS.due("no " + rule, matcher.find(), false);
        }
        Matcher imports = Pattern.compile("import ([^;]+);").matcher(code);
        while (imports.find()) {
            CHECKS.due("import " + imports.group(1), imports.group(1).equals("java.util.Arrays"), true);
        }
    }

    private static void face() {
        Set<String> seen = new TreeSet<>();
        for (Method method : LawfulLots.class.getDeclaredMethods()) {
            boolean open = Modifier.isPublic(method.getModifiers());
            if (open) {
                seen.add(method.toString().replace("public ", "").replace("LawfulLots.", ""));
            }
            CHECKS.due(method + " is public or private", open || Modifier.isPrivate(method.getModifiers()), true);
        }
        CHECKS.due("public methods " + seen, seen.equals(FACE), true);
        for (Field field : LawfulLots.class.getDeclaredFields()) {
            boolean open = Modifier.isPublic(field.getModifiers());
            CHECKS.due(field + " is public", open, field.getName().equals("NONE"));
            CHECKS.due(field + " is private if not", open || Modifier.isPrivate(field.getModifiers()), true);
        }
        for (Constructor<?> constructor : LawfulLots.class.getDeclaredConstructors()) {
            CHECKS.due(constructor + " is the public one", constructor.getParameterCount(), 0);
        }
        CHECKS.due("public and final", LawfulLots.class.getModifiers(), Modifier.PUBLIC | Modifier.FINAL);
    }

    public static void main(String[] args) throws IOException {
        words();
        face();
        CHECKS.end();
    }
}
