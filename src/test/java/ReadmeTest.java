import java.io.IOException;
import java.lang.reflect.Method;
import java.lang.reflect.Modifier;
import java.nio.charset.StandardCharsets;
import java.nio.file.Files;
import java.nio.file.Path;
import java.util.List;
import java.util.regex.Matcher;
import java.util.regex.Pattern;

/** What README.md tells holds: each call of its examples answers so, each call and each test is named. */
public final class ReadmeTest {
    private static final Pattern CALL =
        Pattern.compile("yard\\.(\\w+)\\(([-0-9, ]*)\\);\\s+// (-?\\d+|BAD|NO|FULL|NONE): .*");
    private static final Pattern WRITES = Pattern.compile("write\\(yard, \"([^\"]*)\"\\);");

    public static void main(String[] args) throws IOException, ReflectiveOperationException {
        String readme = Files.readString(Path.of("README.md"), StandardCharsets.US_ASCII);
        examples(readme.lines().toList());
        calls(readme);
        tests(readme);
        Due.end();
    }

    private static void examples(List<String> lines) throws ReflectiveOperationException {
        SignpostYard yard = null;
        int looked = 0;
        for (String line : lines) {
            Matcher call = CALL.matcher(line);
            Matcher writes = WRITES.matcher(line);
            if (line.startsWith("SignpostYard yard = new SignpostYard();")) {
                yard = new SignpostYard();
            } else if (yard != null && call.matches()) {
                Due.is("README.md: " + line, answer(yard, call.group(1), call.group(2)), number(call.group(3)));
                looked++;
            } else if (yard != null && writes.matches()) {
                Due.write(yard, writes.group(1));
            } else {
                Due.holds("README.md: no answer is told for: " + line, !line.startsWith("yard."));
            }
        }
        Due.holds("examples are found", looked > 20);
    }

    private static int answer(SignpostYard yard, String name, String numbers) throws ReflectiveOperationException {
        String[] parts = numbers.isBlank() ? new String[0] : numbers.split(", ");
        Class<?>[] types = new Class<?>[parts.length];
        Object[] values = new Object[parts.length];
        for (int i = 0; i < parts.length; i++) {
            types[i] = int.class;
            values[i] = Integer.parseInt(parts[i]);
        }
        return (Integer) SignpostYard.class.getMethod(name, types).invoke(yard, values);
    }

    private static int number(String told) throws ReflectiveOperationException {
        boolean named = Character.isLetter(told.charAt(0));
        return named ? SignpostYard.class.getField(told).getInt(null) : Integer.parseInt(told);
    }

    private static void calls(String readme) {
        for (Method method : SignpostYard.class.getDeclaredMethods()) {
            if (Modifier.isPublic(method.getModifiers())) {
                StringBuilder row = new StringBuilder("\\| `" + method.getName() + "\\(");
                for (int i = 0; i < method.getParameterCount(); i++) {
                    row.append(i == 0 ? "\\w+" : ", \\w+");
                }
                Due.holds("README.md has a row for " + method, Pattern.compile(row + "\\)` \\|").matcher(readme).find());
            }
        }
    }

    private static void tests(String readme) throws IOException {
        try (var files = Files.list(Path.of("src/test/java"))) {
            for (Path file : files.toList()) {
                String name = file.getFileName().toString().replace(".java", "");
                boolean told = readme.contains("| `" + name + "` |");
                Due.holds("README.md has a row for " + name, told == name.endsWith("Test"));
            }
        }
    }
}
