import java.io.PrintWriter;
import java.io.StringWriter;
import java.nio.file.Path;
import java.util.HashMap;
import java.util.Map;
import java.util.Set;
import java.util.TreeMap;
import java.util.TreeSet;
import java.util.regex.Matcher;
import java.util.regex.Pattern;
import java.util.spi.ToolProvider;

/** Which methods of the class and of those inside it call which, as javap shows them. */
final class CallGraph {
    private static final Pattern METHOD = Pattern.compile("^  [\\w$., \\[\\]]*?([\\w$]+)\\([^)]*\\);$");
    private static final Pattern CALL = Pattern.compile("invoke\\w+ .*// Method (?:(ClaimsOffice[\\w$]*)\\.)?\"?([\\w<>]+)\"?:");
    private final Map<String, Set<String>> calls = new TreeMap<>();
    private final Map<String, Set<String>> reached = new HashMap<>();

    CallGraph(Path classes, Class<?>... all) {
        ToolProvider javap = ToolProvider.findFirst("javap").orElseThrow();
        for (Class<?> c : all) {
            StringWriter out = new StringWriter();
            PrintWriter writer = new PrintWriter(out);
            javap.run(writer, writer, "-c", "-p", "-cp", classes.toString(), c.getName());
            read(c.getName(), out.toString());
        }
        for (String method : calls.keySet()) {
            Set<String> from = new TreeSet<>();
            reach(method, from);
            reached.put(method, from);
        }
    }

    private void read(String owner, String text) {
        String method = "";
        for (String line : text.split("\\R")) {
            Matcher begins = METHOD.matcher(line);
            if (begins.matches()) {
                boolean constructor = begins.group(1).equals(owner);
                method = owner + "." + (constructor ? "<init>" : begins.group(1));
                calls.putIfAbsent(method, new TreeSet<>());
            }
            Matcher call = CALL.matcher(line);
            if (call.find() && calls.containsKey(method)) {
                calls.get(method).add((call.group(1) == null ? owner : call.group(1)) + "." + call.group(2));
            }
        }
    }

    private void reach(String method, Set<String> found) {
        for (String called : calls.getOrDefault(method, Set.of())) {
            if (found.add(called)) {
                reach(called, found);
            }
        }
    }

    Set<String> methods() {
        return calls.keySet();
    }

    /** All methods that call one another with this one; it alone, if it is no recursion. */
    private Set<String> ring(String method) {
        Set<String> ring = new TreeSet<>();
        ring.add(method);
        for (String other : reached.getOrDefault(method, Set.of())) {
            if (reached.getOrDefault(other, Set.of()).contains(method)) {
                ring.add(other);
            }
        }
        return ring;
    }

    /** The rings of methods that are recursions. */
    Set<String> recursions() {
        Set<String> all = new TreeSet<>();
        for (String method : calls.keySet()) {
            if (reached.get(method).contains(method)) {
                all.add(ring(method).toString().replace("ClaimsOffice$", ""));
            }
        }
        return all;
    }

    /** How deep calls go from a method on, itself too; a recursion is gone into once. */
    int depth(String method) {
        int deepest = 0;
        Set<String> ring = ring(method);
        for (String member : ring) {
            for (String called : calls.getOrDefault(member, Set.of())) {
                if (calls.containsKey(called) && !ring.contains(called)) {
                    deepest = Math.max(deepest, depth(called));
                }
            }
        }
        return 1 + deepest;
    }
}
