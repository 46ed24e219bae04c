import java.io.IOException;
import java.lang.reflect.Constructor;
import java.lang.reflect.Field;
import java.lang.reflect.Method;
import java.lang.reflect.Modifier;
import java.nio.file.Files;
import java.nio.file.Path;
import java.util.TreeSet;
import java.util.regex.Matcher;
import java.util.regex.Pattern;

/** "The public face": the class has what the document's own lines of Java say, and nothing more. */
public final class FaceTest {
    private static final Check check = new Check();

    public static void main(String[] args) throws Exception {
        constants();
        constructor();
        methods();
        namesOfArguments();
        check.done();
    }

    private static void constants() throws ReflectiveOperationException {
        int told = 0;
        Matcher lines = Pattern.compile("public static final (int|long) ([^;]+);").matcher(Face.LINES);
        while (lines.find()) {
            for (String constant : lines.group(2).split(", ")) {
                String[] nameAndValue = constant.split(" = ");
                Field field = ClaimsOffice.class.getDeclaredField(nameAndValue[0]);
                long due = nameAndValue[1].equals("Long.MIN_VALUE") ? Long.MIN_VALUE : Long.parseLong(nameAndValue[1]);
                check.due(nameAndValue[0], ((Number) field.get(null)).longValue(), due);
                check.due("how it is told: " + nameAndValue[0], Modifier.toString(field.getModifiers()) + " " + field.getType(),
                        "public static final " + lines.group(1));
                told++;
            }
        }
        check.due("constants of the face", told, 9);
        check.due("public fields", ClaimsOffice.class.getFields().length, told);
    }

    private static void constructor() {
        check.due("it is told", Face.LINES.contains("    public ClaimsOffice();\n") ? 1 : 0, 1);
        Constructor<?>[] made = ClaimsOffice.class.getDeclaredConstructors();
        check.due("how many", made.length, 1);
        check.due("the constructor", made[0].toString(), "public ClaimsOffice()");
        check.due("the class", Modifier.toString(ClaimsOffice.class.getModifiers()) + " " + ClaimsOffice.class,
                "public final class ClaimsOffice");
    }

    private static void methods() {
        TreeSet<String> due = new TreeSet<>();
        for (String method : Face.methods()) {
            due.add("public " + method.replaceAll("(int|long) \\w+(?=[,)])", "$1"));
        }
        TreeSet<String> got = new TreeSet<>();
        for (Method method : ClaimsOffice.class.getDeclaredMethods()) {
            if (!Modifier.isPrivate(method.getModifiers())) {
                String types = method.toString().replaceAll(".*\\((.*)\\)", "$1").replace(",", ", ");
                got.add(Modifier.toString(method.getModifiers()) + " " + method.getReturnType() + " " + method.getName() + "(" + types + ")");
            }
        }
        check.due("methods of the face", due.size(), 40);
        check.due("methods", got.toString(), due.toString());
    }

    private static void namesOfArguments() throws IOException {
        String source = Files.readString(Path.of("src/main/java/ClaimsOffice.java"));
        for (String method : Face.methods()) {
            check.due("with the names of its arguments: " + method, source.contains("    public " + method + " {\n") ? 1 : 0, 1);
        }
    }
}
