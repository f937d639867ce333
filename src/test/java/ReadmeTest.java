import java.lang.reflect.Method;
import java.lang.reflect.Modifier;
import java.nio.file.Files;
import java.nio.file.Path;
import java.util.List;
import java.util.TreeSet;
import java.util.regex.Matcher;
import java.util.regex.Pattern;

/** README.md shows answers that the class gives, and names every call of it. */
public final class ReadmeTest {
    private static final Checks CHECKS = new Checks();
    private static final Pattern EXAMPLE =
        Pattern.compile("volume\\.(\\w+)\\(([^)]*)\\);\\s*// (-?\\d+|SealedVolume\\.\\w+)(:.*)?");
    private static final Pattern ROW = Pattern.compile("\\| `(\\w+)\\(([^)]*)\\)` \\|.*\\|.*\\|");

    public static void main(String[] args) throws Exception {
        List<String> lines = Files.readAllLines(Path.of("README.md"));
        exampleIsTrue(lines);
        everyCallIsNamed(lines);
        CHECKS.end();
    }

    private static void exampleIsTrue(List<String> lines) throws Exception {
        SealedVolume volume = new SealedVolume();
        int calls = 0;
        for (String line : lines) {
            if (line.startsWith("volume.")) {
                Matcher example = EXAMPLE.matcher(line);
                CHECKS.yes("can be read: " + line, example.matches());
                int got = answer(volume, example.group(1), arguments(example.group(2)));
                CHECKS.due(line, got, number(example.group(3)));
                calls++;
            }
        }
        CHECKS.yes("README.md has an example", calls > 0);
    }

    private static int answer(SealedVolume volume, String call, Object[] arguments) throws Exception {
        Class<?>[] types = new Class<?>[arguments.length];
        java.util.Arrays.fill(types, int.class);
        return (int) SealedVolume.class.getMethod(call, types).invoke(volume, arguments);
    }

    private static Object[] arguments(String text) {
        if (text.isEmpty()) {
            return new Object[0];
        }
        String[] parts = text.split(", ");
        Object[] numbers = new Object[parts.length];
        for (int i = 0; i < parts.length; i++) {
            numbers[i] = Integer.valueOf(parts[i]);
        }
        return numbers;
    }

    private static int number(String text) throws Exception {
        if (text.startsWith("SealedVolume.")) {
            return SealedVolume.class.getField(text.substring("SealedVolume.".length())).getInt(null);
        }
        return Integer.parseInt(text);
    }

    private static void everyCallIsNamed(List<String> lines) {
        TreeSet<String> named = new TreeSet<>();
        for (String line : lines) {
            Matcher row = ROW.matcher(line);
            if (row.matches()) {
                named.add(row.group(1) + "/" + arguments(row.group(2).replaceAll("[a-z]+", "0")).length);
            }
        }
        TreeSet<String> calls = new TreeSet<>();
        for (Method method : SealedVolume.class.getDeclaredMethods()) {
            if (Modifier.isPublic(method.getModifiers())) {
                calls.add(method.getName() + "/" + method.getParameterCount());
            }
        }
        CHECKS.yes("calls in the table: " + named, named.equals(calls));
    }
}
