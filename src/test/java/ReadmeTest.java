import java.io.File;
import java.io.IOException;
import java.nio.file.Files;
import java.nio.file.Path;
import java.util.ArrayList;
import java.util.List;
import java.util.Set;
import java.util.TreeSet;
import java.util.concurrent.TimeUnit;
import java.util.regex.Matcher;
import java.util.regex.Pattern;
import java.util.stream.Stream;

/** What README.md says holds when it is done as written, in a copy of the project. */
public final class ReadmeTest {
    private static final int MINUTES = 10;
    private static final Check check = new Check();

    private record Block(String language, String text) {
    }

    public static void main(String[] args) throws Exception {
        String readme = Files.readString(Path.of("README.md"));
        Path room = Files.createTempDirectory("readme");
        try {
            Path project = room.resolve("main");
            copy(Path.of("src"), project.resolve("src"));
            Files.copy(Path.of("README.md"), project.resolve("README.md"));
            Files.createSymbolicLink(room.resolve("shared"), Path.of("../shared").toRealPath());
            follow(blocks(readme), project);
        } finally {
            remove(room);
        }
        check.due(".ci/run can be run", Files.isExecutable(Path.of(".ci/run")) ? 1 : 0, 1);
        namesTests(readme);
        namesClasses(readme);
        check.done();
    }

    private static List<Block> blocks(String readme) {
        List<Block> all = new ArrayList<>();
        Matcher fences = Pattern.compile("(?m)^```(\\w+)\n([^`]*)^```$").matcher(readme);
        while (fences.find()) {
            all.add(new Block(fences.group(1), fences.group(2)));
        }
        return all;
    }

    /** A text behind commands is what they print. */
    private static void follow(List<Block> blocks, Path project) throws Exception {
        String printed = "";
        int commands = 0;
        for (Block block : blocks) {
            switch (block.language()) {
                case "java":
                    Files.writeString(project.resolve("Example.java"), block.text());
                    break;
                case "text":
                    check.due("what is printed", printed, block.text());
                    break;
                default:
                    // this test is one of those that .ci/run runs
                    printed = block.text().equals(".ci/run\n") ? "" : run(block.text(), project);
                    commands++;
            }
        }
        check.due("blocks of commands", commands, 5);
    }

    private static String run(String commands, Path project) throws IOException, InterruptedException {
        Path printed = project.resolve("printed");
        Process process = new ProcessBuilder("sh", "-e", "-c", commands).directory(project.toFile())
                .redirectErrorStream(true).redirectOutput(printed.toFile()).start();
        boolean ended = process.waitFor(MINUTES, TimeUnit.MINUTES);
        if (!ended) {
            process.destroyForcibly();
        }
        String text = Files.readString(printed);
        check.due(commands + text, ended ? process.exitValue() : -1, 0);
        return text;
    }

    private static void namesTests(String readme) {
        Set<String> named = new TreeSet<>();
        Matcher rows = Pattern.compile("(?m)^\\| `(\\w+Test)` \\|").matcher(readme);
        while (rows.find()) {
            named.add(rows.group(1));
        }
        Set<String> there = new TreeSet<>();
        for (String file : new File("src/test/java").list()) {
            if (file.endsWith(".java")) {
                there.add(file.replace(".java", ""));
            }
        }
        check.due("the tests that it names", named.toString(), there.toString());
    }

    private static void namesClasses(String readme) {
        String inside = readme.substring(readme.indexOf("## Inside"), readme.indexOf("## Tests"));
        for (Class<?> c : ClaimsOffice.class.getDeclaredClasses()) {
            check.due("it names " + c, inside.contains("`" + c.getSimpleName() + "`") ? 1 : 0, 1);
        }
    }

    private static void copy(Path from, Path to) throws IOException {
        try (Stream<Path> all = Files.walk(from)) {
            for (Path path : (Iterable<Path>) all::iterator) {
                Path copy = to.resolve(from.relativize(path));
                if (Files.isDirectory(path)) {
                    Files.createDirectories(copy);
                } else {
                    Files.copy(path, copy);
                }
            }
        }
    }

    /** What a link leads to is left alone. */
    private static void remove(Path path) throws IOException {
        if (Files.isDirectory(path) && !Files.isSymbolicLink(path)) {
            try (Stream<Path> within = Files.list(path)) {
                for (Path each : (Iterable<Path>) within::iterator) {
                    remove(each);
                }
            }
        }
        Files.delete(path);
    }
}
