import java.io.IOException;
import java.lang.reflect.Method;
import java.lang.reflect.Modifier;
import java.nio.file.Files;
import java.nio.file.Path;
import java.util.Arrays;
import java.util.HashSet;
import java.util.List;
import java.util.Set;
import java.util.regex.Matcher;
import java.util.regex.Pattern;

/** README.md shows every call of the class, and each answers what is written behind it. */
public final class ReadmeTest {
    private static final Check CHECK = new Check();
    private static final Pattern CALL = Pattern.compile("x\\.(\\w+)\\(([^)]*)\\);\\s*// (-?\\d+)(?::.*)?");

    public static void main(String[] args) throws IOException, ReflectiveOperationException {
        Set<String> shown = new HashSet<>();
        CodedWords x = new CodedWords();
        for (String line : Files.readAllLines(Path.of("README.md"))) {
            if (line.startsWith("x.")) {
                shown.add(tried(x, line));
            }
        }
        for (Method method : CodedWords.class.getDeclaredMethods()) {
            if (Modifier.isPublic(method.getModifiers())) {
                CHECK.holds("README.md shows " + method.getName(), shown.contains(method.getName()));
            }
        }
        CHECK.end();
    }

    /** Makes the call of a line and looks at its answer: the call's name. */
    private static String tried(CodedWords x, String line) throws ReflectiveOperationException {
        Matcher parts = CALL.matcher(line);
        boolean isCall = parts.matches();
        CHECK.holds("a call with its answer: " + line, isCall);
        if (!isCall) {
            return "";
        }
        Object[] numbers = numbersOf(parts.group(2));
        Class<?>[] types = new Class<?>[numbers.length];
        Arrays.fill(types, int.class);
        Object got = CodedWords.class.getMethod(parts.group(1), types).invoke(x, numbers);
        CHECK.due(line, ((Integer) got).longValue(), Long.parseLong(parts.group(3)));
        return parts.group(1);
    }

    private static Object[] numbersOf(String text) {
        if (text.isBlank()) {
            return new Object[0];
        }
        return List.of(text.split(",\\s*")).stream().map(Integer::valueOf).toArray();
    }
}
