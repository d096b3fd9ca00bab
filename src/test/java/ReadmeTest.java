import java.io.IOException;
import java.lang.reflect.Method;
import java.nio.file.Files;
import java.nio.file.Path;
import java.util.Arrays;
import java.util.regex.Matcher;
import java.util.regex.Pattern;

/** The examples of README.md: each call there answers the number that stands behind it. */
public final class ReadmeTest {
    private static final Path PAGE = Path.of("README.md");
    private static final String NEW_OBJECT = "EscapeRouter router = new EscapeRouter();";
    private static final Pattern CALL = Pattern.compile("router\\.(\\w+)\\((.*)\\); +// (-?\\d+)(:.*)?");

    public static void main(String[] args) throws IOException, ReflectiveOperationException {
        EscapeRouter router = null;
        boolean inExample = false;
        int examples = 0;
        for (String line : Files.readAllLines(PAGE)) {
            if (line.startsWith("```")) {
                inExample = line.equals("```java");
            } else if (inExample && line.equals(NEW_OBJECT)) {
                router = new EscapeRouter();
                examples++;
            } else if (inExample) {
                check(router, line);
            }
        }
        Checks.due("examples of the page", examples, 2);
        Checks.finish("ReadmeTest");
    }

    private static void check(EscapeRouter router, String line) throws ReflectiveOperationException {
        Matcher call = CALL.matcher(line);
        boolean readable = call.matches();
        Checks.holds("a call with its answer: " + line, readable);
        if (readable) {
            Object[] arguments = arguments(call.group(2));
            Class<?>[] types = new Class<?>[arguments.length];
            Arrays.fill(types, int.class);
            Method method = EscapeRouter.class.getMethod(call.group(1), types);
            Checks.due(line, (Integer) method.invoke(router, arguments), Integer.parseInt(call.group(3)));
        }
    }

    /** Numbers, and signs between single quotes. */
    private static Object[] arguments(String list) {
        if (list.isEmpty()) {
            return new Object[0];
        }
        String[] words = list.split(", ");
        Object[] arguments = new Object[words.length];
        for (int i = 0; i < words.length; i++) {
            arguments[i] = words[i].startsWith("'") ? (int) words[i].charAt(1) : Integer.parseInt(words[i]);
        }
        return arguments;
    }
}
