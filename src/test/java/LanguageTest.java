import java.io.File;
import java.lang.reflect.Constructor;
import java.lang.reflect.Method;
import java.lang.reflect.Modifier;
import java.nio.file.Files;
import java.nio.file.Path;
import java.util.Set;
import java.util.TreeSet;
import java.util.regex.Matcher;
import java.util.regex.Pattern;

/** The face, and the rules of LANGUAGE.md that can be seen from the text and from the class. */
public final class LanguageTest {
    private static final Check check = new Check();

    private static final String[] FACE = {"long cents(int)", "int batch()", "int bundle(int,int,int)", "int clauses(int)",
        "int close(int,int)", "int correct(int,int,int,int,long,int)", "int count(int)", "int end()", "int finding()",
        "int item(int,int,long,long)", "int letter(int)", "int loss(int,int)", "int notify(int,int,int,int)",
        "int of(int,int)", "int part(int,int)", "int pay(int,int,long)", "int period(int,int,long)", "int person()",
        "int policy(int,int,int,int)", "int rank(int,int)", "int recourse(int,int,long)", "int reopen(int,int,int)",
        "int reserve(int,int,int,long)", "int row(int,int)", "int salvage(int,int,long)", "int say()",
        "int share(int,int,int,long)", "int shareRule(int,int)", "int takeIn()", "int tell(int,int)", "int trace(int)",
        "int type(long,int)", "int undo()", "int write()", "long factor(int,int,int,int,int)", "long left(int,int,int)",
        "long owed(int,int,int)", "long reserved(int,int,int)", "long run(int,int,int,int)", "long used(int,int,int)"};

    public static void main(String[] args) throws Exception {
        face();
        constants();
        nested();
        String source = Files.readString(Path.of("src/main/java/ClaimsOffice.java"));
        words(source);
        sizes(source);
        check.done();
    }

    private static void face() {
        Set<String> due = new TreeSet<>(Set.of(FACE));
        Set<String> got = new TreeSet<>();
        for (Method m : ClaimsOffice.class.getDeclaredMethods()) {
            if (!Modifier.isPrivate(m.getModifiers())) {
                got.add(shape(m));
                check.due("public: " + m, Modifier.isPublic(m.getModifiers()) ? 1 : 0, 1);
            }
        }
        check.due("the face", got.toString(), due.toString());
        Constructor<?>[] made = ClaimsOffice.class.getDeclaredConstructors();
        check.due("constructors", made.length, 1);
        check.due("the public constructor", Modifier.isPublic(made[0].getModifiers()) ? 1 : 0, 1);
        check.due("final", Modifier.isFinal(ClaimsOffice.class.getModifiers()) ? 1 : 0, 1);
    }

    private static String shape(Method m) {
        StringBuilder s = new StringBuilder(m.getReturnType() + " " + m.getName() + "(");
        for (Class<?> c : m.getParameterTypes()) {
            s.append(s.charAt(s.length() - 1) == '(' ? "" : ",").append(c);
        }
        return s.append(')').toString();
    }

    private static void constants() throws Exception {
        String[] names = {"NONE", "BAD", "STATE", "DAY", "LATE", "MUCH", "FULL", "HELD"};
        for (int i = 0; i < names.length; i++) {
            check.due(names[i], ClaimsOffice.class.getField(names[i]).getInt(null), -1 - i);
        }
        check.due("NO_ANSWER", ClaimsOffice.NO_ANSWER, Long.MIN_VALUE);
        check.due("public fields", ClaimsOffice.class.getFields().length, 9);
    }

    private static void nested() {
        Set<String> names = new TreeSet<>();
        for (String f : FACE) {
            names.add(f.replaceAll(".* (\\w+)\\(.*", "$1"));
        }
        Class<?>[] classes = ClaimsOffice.class.getDeclaredClasses();
        check.due("rule 11: at most twelve classes", classes.length + 1 <= 12 ? 1 : 0, 1);
        for (Class<?> c : classes) {
            check.due("rule 2: static " + c, Modifier.isStatic(c.getModifiers()) ? 1 : 0, 1);
            long fields = 0;
            for (java.lang.reflect.Field f : c.getDeclaredFields()) {
                fields += Modifier.isStatic(f.getModifiers()) ? 0 : 1;
            }
            check.due("rule 11: fields of " + c, fields <= 20 ? 1 : 0, 1);
            for (Method m : c.getDeclaredMethods()) {
                check.due("rule 1: no name of the face: " + m, names.contains(m.getName()) ? 1 : 0, 0);
                check.due("rule 11: seven parameters: " + m, m.getParameterCount() <= 7 ? 1 : 0, 1);
            }
        }
        for (Method m : ClaimsOffice.class.getDeclaredMethods()) {
            boolean hidden = Modifier.isPrivate(m.getModifiers()) && names.contains(m.getName());
            check.due("rule 1: no name of the face: " + m, hidden ? 1 : 0, 0);
        }
    }

    private static void words(String source) {
        String code = source.replaceAll("(?s)/\\*.*?\\*/", "").replaceAll("//[^\n]*", "")
                .replaceAll("\"[^\"\n]*\"", "\"\"");
        String[] never = {"throw", "throws", "try", "catch", "synchronized", "assert", "package", "->", "::", "hashCode",
            "toString", "Exact", "double", "float", "System.out", "System.current", "Random", "Thread", "new Object",
            "protected", "\"\" \\+", "\\+ \"\"", "while (true)", "for (;;)"};
        for (String word : never) {
            String pattern = word.matches("\\w+") ? "\\b" + word + "\\b" : word.contains("\\") ? word : Pattern.quote(word);
            check.due("rules 3, 4, 6, 10, 13: no " + word, Pattern.compile(pattern).matcher(code).find() ? 1 : 0, 0);
        }
        Set<String> imports = new TreeSet<>();
        Matcher m = Pattern.compile("import ([\\w.]+);").matcher(code);
        while (m.find()) {
            imports.add(m.group(1));
        }
        check.due("rule 4: imports", imports.toString(), "[java.util.Arrays]");
        Set<String> library = new TreeSet<>();
        m = Pattern.compile("\\b(Arrays|System|Math|Integer|Long|String|StringBuilder|List|ArrayList)\\.(\\w+)").matcher(code);
        while (m.find()) {
            library.add(m.group());
        }
        check.due("rule 4: the library", library.toString(),
                "[Arrays.copyOf, Arrays.fill, Long.MIN_VALUE, Math.abs, Math.max, Math.min, System.arraycopy]");
    }

    private static void sizes(String source) {
        String[] lines = source.split("\n");
        for (int i = 0; i < lines.length; i++) {
            Matcher m = Pattern.compile("^(\\s+)[\\w<>\\[\\] ]+\\([^;]*\\{$").matcher(lines[i]);
            if (!m.matches() || lines[i].trim().matches("(if|for|while|switch|return|else|do)\\b.*")) {
                continue;
            }
            int last = i;
            while (last < lines.length && !lines[last].equals(m.group(1) + "}")) {
                last++;
            }
            check.due("rule 11: sixty lines: " + lines[i].trim(), last - i + 1 <= 60 ? 1 : 0, 1);
        }
        check.due("one file", new File("src/main/java").list().length, 1);
    }
}
