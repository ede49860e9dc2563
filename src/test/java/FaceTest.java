import java.io.IOException;
import java.lang.reflect.Constructor;
import java.lang.reflect.Field;
import java.lang.reflect.Method;
import java.lang.reflect.Modifier;
import java.nio.charset.StandardCharsets;
import java.nio.file.Files;
import java.nio.file.Path;
import java.util.ArrayList;
import java.util.Arrays;
import java.util.List;
import java.util.Set;
import java.util.TreeSet;
import java.util.regex.Matcher;
import java.util.regex.Pattern;

/** What the document tells ahead of its terms, the public face, is that of the class, line by line. */
public final class FaceTest {
    private static final Path SOURCE = Path.of("src/main/java/SignpostYard.java");
    private static final Pattern CONSTANT = Pattern.compile("\\b([A-Z]+) = (-?\\d+)");
    private static final Pattern CALL = Pattern.compile("public int (\\w+)\\(([^)]*)\\)");
    private static final Pattern GROUP = Pattern.compile("Ahead of the calls (.*?) the interface says: (---- [^.]*)\\.");

    public static void main(String[] args) throws IOException, ReflectiveOperationException {
        if (Doc.isThere()) {
            String face = Doc.between("## The public face", "## Terms");
            List<String> source = Files.readString(SOURCE, StandardCharsets.US_ASCII).lines().toList();
            lines(face, source);
            constants(face);
            calls(face);
            headings(source);
            promises(face);
        }
        Due.end();
    }

    /** The public lines of the source are those of the document, in their order. */
    private static void lines(String face, List<String> source) {
        List<String> due = new ArrayList<>();
        for (String line : face.lines().toList()) {
            if (line.strip().startsWith("public ")) {
                due.add(bare(line));
            }
        }
        List<String> found = new ArrayList<>();
        for (String line : source) {
            if (line.startsWith("public ") || line.startsWith("    public ")) {
                found.add(bare(line));
            }
        }
        Due.is("lines of the face", due.size(), 36);
        Due.is("public lines of the source", found.size(), due.size());
        for (int i = 0; i < Math.min(due.size(), found.size()); i++) {
            Due.holds("\"" + due.get(i) + "\" comes as line " + i + ": " + found.get(i), due.get(i).equals(found.get(i)));
        }
    }

    private static String bare(String line) {
        return line.replaceAll("\\s*[{;]\\s*$", "").strip();
    }

    private static void constants(String face) throws ReflectiveOperationException {
        Set<String> told = new TreeSet<>();
        Matcher m = CONSTANT.matcher(face);
        while (m.find()) {
            told.add(m.group(1));
            Due.is(m.group(1), SignpostYard.class.getField(m.group(1)).getInt(null), Integer.parseInt(m.group(2)));
        }
        Set<String> found = new TreeSet<>();
        for (Field field : SignpostYard.class.getFields()) {
            found.add(field.getName());
        }
        Due.holds("the constants are " + told + ": " + found, told.equals(found));
    }

    private static void calls(String face) {
        int publicAndFinal = Modifier.PUBLIC | Modifier.FINAL;
        Due.is("the class's modifiers", SignpostYard.class.getModifiers(), publicAndFinal);
        Constructor<?>[] made = SignpostYard.class.getConstructors();
        Due.holds("one public constructor without parameters", made.length == 1 && made[0].getParameterCount() == 0);
        Set<String> told = new TreeSet<>();
        Matcher m = CALL.matcher(face);
        while (m.find()) {
            told.add(m.group(1) + m.group(2).replaceAll("[^,]*int \\w+", "int"));
        }
        Set<String> found = new TreeSet<>();
        for (Method method : SignpostYard.class.getDeclaredMethods()) {
            if (!Modifier.isPrivate(method.getModifiers())) {
                Due.holds(method.getName() + " is public, not static, and answers int",
                    method.getModifiers() == Modifier.PUBLIC && method.getReturnType() == int.class);
                String types = Arrays.toString(method.getParameterTypes()).replaceAll("[\\[\\] ]", "");
                found.add(method.getName() + types);
            }
        }
        Due.holds("the calls are " + told + ": " + found, told.equals(found));
    }

    /** Behind each heading stand the calls that the document names, and no others. */
    private static void headings(List<String> source) {
        Matcher m = GROUP.matcher(Doc.text());
        int groups = 0;
        while (m.find()) {
            groups++;
            List<String> due = List.of(m.group(1).replaceAll("[` ]", "").split(","));
            List<String> found = callsBehind(m.group(2), source);
            Due.holds("behind " + m.group(2) + " come " + due + ": " + found, due.equals(found));
        }
        Due.is("headings", groups, 6);
    }

    private static List<String> callsBehind(String heading, List<String> source) {
        List<String> calls = new ArrayList<>();
        for (int i = source.indexOf("    // " + heading) + 1; i > 0 && i < source.size(); i++) {
            String line = source.get(i);
            if (line.startsWith("    // ----")) {
                break;
            }
            Matcher m = CALL.matcher(line);
            if (line.startsWith("    public ") && m.find()) {
                calls.add(m.group(1));
            }
        }
        return calls;
    }

    /** Each call of the face has its promise, in the same order: the constructor is the first. */
    private static void promises(String face) {
        List<String> due = new ArrayList<>(List.of("SignpostYard()"));
        for (String line : face.lines().toList()) {
            if (line.strip().startsWith("public int ")) {
                due.add(bare(line).replace("public ", ""));
            }
        }
        List<String> found = new ArrayList<>();
        Matcher m = Pattern.compile("## Promise \\d+: [^\n]*\n\n`([^`]*)`").matcher(Doc.text());
        while (m.find()) {
            found.add(m.group(1));
        }
        Due.holds("the promises are of " + due + ": " + found, due.equals(found));
    }
}
