import java.io.File;
import java.lang.reflect.Field;
import java.lang.reflect.Method;
import java.lang.reflect.Modifier;
import java.net.URISyntaxException;
import java.nio.file.Files;
import java.nio.file.Path;
import java.util.Arrays;
import java.util.Set;
import java.util.TreeSet;
import java.util.regex.Matcher;
import java.util.regex.Pattern;

/** The rules of LANGUAGE.md that can be seen from the text and from the class; its rule of the face is FaceTest's. */
public final class LanguageTest {
    private static final Check check = new Check();

    public static void main(String[] args) throws Exception {
        nested();
        statics();
        depths();
        String source = Files.readString(Path.of("src/main/java/ClaimsOffice.java"));
        words(source);
        sizes(source);
        check.done();
    }

    private static void nested() {
        Set<String> names = new TreeSet<>();
        for (Method m : ClaimsOffice.class.getMethods()) {
            if (m.getDeclaringClass() == ClaimsOffice.class) {
                names.add(m.getName());
            }
        }
        Class<?>[] classes = ClaimsOffice.class.getDeclaredClasses();
        check.due("rule 11: at most twelve classes", classes.length + 1 <= 12 ? 1 : 0, 1);
        for (Class<?> c : classes) {
            check.due("rule 2: static " + c, Modifier.isStatic(c.getModifiers()) ? 1 : 0, 1);
            long fields = 0;
            for (Field f : c.getDeclaredFields()) {
                fields += Modifier.isStatic(f.getModifiers()) ? 0 : 1;
            }
            check.due("rule 11: fields of " + c, fields <= 20 ? 1 : 0, 1);
            for (Method m : c.getDeclaredMethods()) {
                check.due("rule 1: no name of the face: " + m, names.contains(m.getName()) ? 1 : 0, 0);
                check.due("rule 11: seven parameters: " + m, m.getParameterCount() <= 7 ? 1 : 0, 1);
            }
        }
        for (Method m : ClaimsOffice.class.getDeclaredMethods()) {
            boolean hidden = Modifier.isPrivate(m.getModifiers()) && names.contains(m.getName());
            check.due("rule 1: no name of the face: " + m, hidden ? 1 : 0, 0);
        }
    }

    private static Class<?>[] allClasses() {
        Class<?>[] inside = ClaimsOffice.class.getDeclaredClasses();
        Class<?>[] all = Arrays.copyOf(inside, inside.length + 1);
        all[inside.length] = ClaimsOffice.class;
        return all;
    }

    private static void statics() {
        Set<Class<?>> constants = Set.of(int.class, long.class, boolean.class, char.class, String.class, int[].class,
                long[].class, char[].class, byte[].class);
        for (Class<?> c : allClasses()) {
            for (Field f : c.getDeclaredFields()) {
                if (Modifier.isStatic(f.getModifiers())) {
                    check.due("rule 5: final " + f, Modifier.isFinal(f.getModifiers()) ? 1 : 0, 1);
                    check.due("rule 5: a constant " + f, constants.contains(f.getType()) ? 1 : 0, 1);
                }
                boolean inRows = f.getType().isArray() && f.getType().getComponentType().isArray();
                check.due("rule 3: rows of one dimension " + f, inRows ? 1 : 0, 0);
            }
        }
    }

    private static void depths() throws URISyntaxException {
        Path classes = Path.of(ClaimsOffice.class.getProtectionDomain().getCodeSource().getLocation().toURI());
        CallGraph graph = new CallGraph(classes, allClasses());
        check.due("methods that were seen", graph.methods().size() > 100 ? 1 : 0, 1);
        for (String method : graph.methods()) {
            check.due("rule 11: eight deep from " + method, graph.depth(method) <= 8 ? 1 : 0, 1);
        }
        check.due("rule 8: recursions, each with a guard on its depth", graph.recursions().toString(),
                "[[Node.writeCondition], [Reader.readAnd, Reader.readNot, Reader.readOr], [Working.ask, Working.lossIs],"
                + " [Working.holds]]");
    }

    private static void words(String source) {
        String code = source.replaceAll("(?s)/\\*.*?\\*/", "").replaceAll("//[^\n]*", "")
                .replaceAll("\"[^\"\n]*\"", "\"\"");
        String[] never = {"throw", "throws", "try", "catch", "synchronized", "assert", "package", "->", "::", "hashCode",
            "toString", "Exact", "double", "float", "System.out", "System.current", "Random", "Thread", "new Object",
            "protected", "\"\" \\+", "\\+ \"\"", "while (true)", "for (;;)"};
        for (String word : never) {
            String pattern = word.matches("\\w+") ? "\\b" + word + "\\b" : word.contains("\\") ? word : Pattern.quote(word);
            check.due("rules 3, 4, 6, 10, 13: no " + word, Pattern.compile(pattern).matcher(code).find() ? 1 : 0, 0);
        }
        Set<String> imports = new TreeSet<>();
        Matcher m = Pattern.compile("import ([\\w.]+);").matcher(code);
        while (m.find()) {
            imports.add(m.group(1));
        }
        check.due("rule 4: imports", imports.toString(), "[java.util.Arrays]");
        Set<String> library = new TreeSet<>();
        m = Pattern.compile("\\b(Arrays|System|Math|Integer|Long|String|StringBuilder|List|ArrayList)\\.(\\w+)").matcher(code);
        while (m.find()) {
            library.add(m.group());
        }
        check.due("rule 4: the library", library.toString(),
                "[Arrays.copyOf, Arrays.fill, Long.MIN_VALUE, Math.abs, Math.max, Math.min, System.arraycopy]");
    }

    private static void sizes(String source) {
        String[] lines = source.split("\n");
        for (int i = 0; i < lines.length; i++) {
            Matcher m = Pattern.compile("^(\\s+)[\\w<>\\[\\] ]+\\([^;]*\\{$").matcher(lines[i]);
            if (!m.matches() || lines[i].trim().matches("(if|for|while|switch|return|else|do)\\b.*")) {
                continue;
            }
            int last = i;
            while (last < lines.length && !lines[last].equals(m.group(1) + "}")) {
                last++;
            }
            check.due("rule 11: sixty lines: " + lines[i].trim(), last - i + 1 <= 60 ? 1 : 0, 1);
        }
        check.due("one file", new File("src/main/java").list().length, 1);
    }
}
