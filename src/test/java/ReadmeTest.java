import java.io.IOException;
import java.lang.reflect.Method;
import java.lang.reflect.Modifier;
import java.nio.file.Files;
import java.nio.file.Path;
import java.util.regex.Matcher;
import java.util.regex.Pattern;

/** What README.md says of the class holds: the calls of its example, and a name for every call. */
public final class ReadmeTest {
    private static final Pattern CALL = Pattern.compile("x\\.(\\w+)\\(([^)]*)\\);\\s*// (-?\\d+).*");

    public static void main(String[] args) throws IOException, ReflectiveOperationException {
        String page = Files.readString(Path.of("README.md"));
        example(page);
        everyCall(page);
        Check.finish("ReadmeTest");
    }

    private static void example(String page) throws ReflectiveOperationException {
        SortingNets x = new SortingNets();
        int made = 0;
        for (String line : page.split("\n")) {
            if (line.startsWith("x.")) {
                Matcher call = CALL.matcher(line);
                Check.due(line + ": is a call with its answer", call.matches(), true);
                if (call.matches()) {
                    Check.due(line, answer(x, call.group(1), call.group(2)), Long.parseLong(call.group(3)));
                    made++;
                }
            }
        }
        Check.due("calls in the example", made >= 10, true);
    }

    private static long answer(SortingNets x, String name, String numbers) throws ReflectiveOperationException {
        String[] told = numbers.split(", ");
        Class<?>[] types = new Class<?>[told.length];
        Object[] values = new Object[told.length];
        for (int k = 0; k < told.length; k++) {
            types[k] = int.class;
            values[k] = Integer.decode(told[k]);
        }
        return ((Number) SortingNets.class.getMethod(name, types).invoke(x, values)).longValue();
    }

    private static void everyCall(String page) {
        for (Method method : SortingNets.class.getDeclaredMethods()) {
            if (Modifier.isPublic(method.getModifiers())) {
                Check.due("README.md names " + method.getName(), page.contains("`" + method.getName() + "`"), true);
            }
        }
    }
}
