import java.io.IOException;
import java.lang.reflect.Method;
import java.nio.file.Files;
import java.nio.file.Path;
import java.util.regex.Matcher;
import java.util.regex.Pattern;

/** What README.md says of its example is so; run it from the project's folder. */
public final class ReadmeTest {
    private static final Checks CHECKS = new Checks();
    private static final Pattern TEXT = Pattern.compile("```text\n(.*?)```", Pattern.DOTALL);
    private static final Pattern CALL = Pattern.compile("^lots\\.(\\w+)\\(([^)]*)\\); +// (-?\\d+|true|false)\\b", Pattern.MULTILINE);

    private static Method methodNamed(String name) {
        for (Method method : LawfulLots.class.getMethods()) {
            if (method.getName().equals(name)) {
                return method;
            }
        }
        throw new IllegalStateException("README.md calls " + name);
    }

    private static Object argument(Class<?> type, String told) {
        return type == int.class ? (Object) Integer.valueOf(told) : type == long.class ? (Object) Long.valueOf(told)
            : Boolean.valueOf(told);
    }

    private static String answer(LawfulLots lots, String name, String told) throws ReflectiveOperationException {
        Method method = methodNamed(name);
        Class<?>[] types = method.getParameterTypes();
        String[] words = told.isEmpty() ? new String[0] : told.split(", ");
        Object[] arguments = new Object[types.length];
        for (int n = 0; n < types.length; n++) {
            arguments[n] = argument(types[n], words[n]);
        }
        return String.valueOf(method.invoke(lots, arguments));
    }

    public static void main(String[] args) throws IOException, ReflectiveOperationException {
        String readme = Files.readString(Path.of("README.md"));
        Matcher text = TEXT.matcher(readme);
        CHECKS.due("README.md has a text", text.find(), true);
        LawfulLots lots = Texts.lotsOf(text.group(1));
        Matcher call = CALL.matcher(readme);
        int calls = 0;
        while (call.find()) {
            String name = call.group(1);
            CHECKS.due(call.group(), answer(lots, name, call.group(2)), call.group(3));
            calls++;
        }
        CHECKS.due("README.md tells calls", calls > 20, true);
        CHECKS.end();
    }
}
