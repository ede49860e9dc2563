import java.io.IOException;
import java.lang.reflect.Constructor;
import java.lang.reflect.Field;
import java.lang.reflect.Method;
import java.lang.reflect.Modifier;
import java.nio.charset.StandardCharsets;
import java.nio.file.Files;
import java.nio.file.Path;
import java.util.ArrayList;
import java.util.List;
import java.util.Set;
import java.util.TreeSet;
import java.util.regex.Matcher;
import java.util.regex.Pattern;

/** The rules of LANGUAGE.md that a look at the source and the face can tell. */
public final class LanguageTest {
    private static final Path SOURCE = Path.of("src/main/java/SignpostYard.java");
    private static final String[] FACE = {
        "write(int)", "wipe()", "fault()", "lay()", "road(int,int)", "post(int,int)", "arm(int,int,int)",
        "walker(int,int)", "pass(int)", "year()", "lays(int,int,int)", "paint(int)", "move(int,int)",
        "retire(int)", "undo()", "comes(int)", "trail(int,int)", "lost()", "helps(int)", "paints(int)",
        "cover(int)", "far(int,int)", "told(int,int,int)", "stood()", "next()", "seen(int,int,int)",
        "kinds(int)", "forget()", "likely(int,int,int)", "century(int,int,int)", "keep()", "back()", "count(int)"};
    private static final Pattern METHOD =
        Pattern.compile("^ {4,8}(?:(?:public|private|static|final) )*[\\w\\[\\]]+ ?\\w*\\(([^)]*)\\) \\{$");

    public static void main(String[] args) throws IOException {
        String source = Files.readString(SOURCE, StandardCharsets.US_ASCII);
        face();
        inside();
        words(source.replaceAll("(?s)/\\*.*?\\*/", "").replaceAll("//[^\n]*", ""));
        methods(source.lines().toList());
        roomOfCalls();
        Due.end();
    }

    private static void face() {
        Class<?> c = SignpostYard.class;
        Due.holds("the class is public and final", Modifier.isPublic(c.getModifiers()) && Modifier.isFinal(c.getModifiers()));
        Set<String> due = new TreeSet<>(List.of(FACE));
        Set<String> names = new TreeSet<>();
        for (String one : FACE) {
            names.add(one.substring(0, one.indexOf('(')));
        }
        Set<String> found = new TreeSet<>();
        for (Method m : c.getDeclaredMethods()) {
            if (Modifier.isPrivate(m.getModifiers())) {
                Due.holds(m.getName() + " bears no public name", !names.contains(m.getName()));
            } else {
                StringBuilder types = new StringBuilder();
                for (Class<?> type : m.getParameterTypes()) {
                    types.append(types.length() == 0 ? "" : ",").append(type.getName());
                }
                found.add(m.getName() + "(" + types + ")");
                Due.holds(m.getName() + " is public and answers int",
                    Modifier.isPublic(m.getModifiers()) && m.getReturnType() == int.class);
            }
        }
        Due.holds("the face is " + due + ": " + found, due.equals(found));
        Constructor<?>[] made = c.getDeclaredConstructors();
        Due.holds("one public constructor", made.length == 1 && Modifier.isPublic(made[0].getModifiers())
            && made[0].getParameterCount() == 0);
        for (Field f : c.getDeclaredFields()) {
            boolean told = Set.of("BAD", "NO", "FULL", "NONE").contains(f.getName());
            Due.holds("field " + f.getName(), told == Modifier.isPublic(f.getModifiers())
                && told != Modifier.isPrivate(f.getModifiers()));
        }
    }

    private static void inside() {
        Class<?>[] classes = SignpostYard.class.getDeclaredClasses();
        Due.holds("twelve classes at most", classes.length <= 12);
        for (Class<?> c : classes) {
            Due.holds(c.getSimpleName() + " is static", Modifier.isStatic(c.getModifiers()));
            Due.holds(c.getSimpleName() + " is not public",
                !Modifier.isPublic(c.getModifiers()) && !Modifier.isProtected(c.getModifiers()));
            for (Method m : c.getDeclaredMethods()) {
                for (String one : FACE) {
                    Due.holds(c.getSimpleName() + "." + m.getName() + " bears no public name",
                        !one.startsWith(m.getName() + "("));
                }
            }
        }
        List<Class<?>> all = new ArrayList<>(List.of(classes));
        all.add(SignpostYard.class);
        for (Class<?> c : all) {
            int fields = 0;
            for (Field f : c.getDeclaredFields()) {
                if (Modifier.isStatic(f.getModifiers())) {
                    Due.holds(f.getName() + " is final", Modifier.isFinal(f.getModifiers()));
                } else {
                    fields++;
                }
            }
            Due.holds(c.getSimpleName() + " has twenty fields at most", fields <= 20);
        }
    }

    private static void words(String code) {
        String[] forbidden = {"throw", "throws", "try", "catch", "finally", "synchronized", "assert", "import",
            "package", "protected", "equals", "hashCode", "toString", "volatile", "transient", "native", "System\\.out",
            "Exact", "random", "Thread", "yield", "var", "Object"};
        for (String word : forbidden) {
            Due.holds("no " + word, !Pattern.compile("\\b" + word + "\\b").matcher(code).find());
        }
        for (String sign : new String[] {"->", "::", "@", "\" +", "+ \"", "\n        + \""}) {
            Due.holds("no " + sign, !code.contains(sign));
        }
        Matcher library = Pattern.compile("\\b(Math|Integer|System|Arrays|Long)\\.(\\w+)").matcher(code);
        while (library.find()) {
            boolean known = Set.of("Math.min", "Math.max", "Integer.bitCount", "System.arraycopy").contains(library.group());
            Due.holds("of the library: " + library.group(), known);
        }
        Due.holds("every while has a counter", !Pattern.compile("\\bwhile\\b").matcher(code).find());
    }

    /** Short methods with few parameters; objects are made by constructors alone. */
    private static void methods(List<String> lines) {
        int begun = -1;
        String name = "";
        String indent = "";
        boolean constructs = false;
        int found = 0;
        for (int i = 0; i < lines.size(); i++) {
            String line = lines.get(i);
            Matcher m = METHOD.matcher(line);
            if (begun < 0 && m.matches()) {
                begun = i;
                found++;
                name = line.trim();
                indent = line.substring(0, line.length() - line.stripLeading().length());
                constructs = Pattern.matches("(public )?[A-Z]\\w*\\(.*", name);
                Due.holds(name + " has seven parameters at most", m.group(1).split(",").length <= 7);
            }
            if (line.matches(".*\\bnew\\b.*") && !line.matches("\\s*/?\\*.*")) {
                Due.holds("made in a constructor: " + line, begun >= 0 && constructs);
            }
            if (begun >= 0 && line.equals(indent + "}")) {
                Due.holds(name + " is short", i - begun < 60);
                begun = -1;
            }
        }
        Due.holds("methods are found", found > 100);
    }

    /** The calls of one object, the dearest ones too, leave nothing behind in the room. */
    private static void roomOfCalls() {
        java.lang.management.ThreadMXBean threads = java.lang.management.ManagementFactory.getThreadMXBean();
        if (!(threads instanceof com.sun.management.ThreadMXBean)) {
            return;
        }
        com.sun.management.ThreadMXBean room = (com.sun.management.ThreadMXBean) threads;
        long self = Thread.currentThread().getId();
        SignpostYard x = new SignpostYard();
        deepCalls(x);
        long before = room.getThreadAllocatedBytes(self);
        for (int i = 0; i < 30; i++) {
            deepCalls(x);
        }
        long bytes = room.getThreadAllocatedBytes(self) - before;
        Due.holds("calls make next to nothing, here " + bytes + " bytes", bytes < 20000);
    }

    private static void deepCalls(SignpostYard x) {
        x.write('n');
        x.fault();
        x.lay();
        x.pass(20);
        x.lays(0, 3, 4);
        x.undo();
        x.helps(0);
        x.paints(0);
        x.cover(0);
        x.next();
        x.likely(0, 5, 0);
        x.century(9, 60, 0);
        x.keep();
        x.back();
    }
}
