import java.io.IOException;
import java.nio.file.DirectoryStream;
import java.nio.file.Files;
import java.nio.file.Path;
import java.util.ArrayList;
import java.util.List;
import java.util.regex.Matcher;
import java.util.regex.Pattern;

/** The sentences that tests name stand in the document, and there is none in it that no test names. */
public final class DocumentTest {
    private static final Path DOCUMENT = Path.of("../shared/DOC.md");
    private static final Pattern LITERALS = Pattern.compile("sentence\\(((?:\\s*\\+?\\s*\"(?:[^\"\\\\]|\\\\.)*\")+)\\)");
    private static final Pattern LITERAL = Pattern.compile("\"((?:[^\"\\\\]|\\\\.)*)\"");
    private static final Check check = new Check();

    public static void main(String[] args) throws IOException {
        if (!Files.isReadable(DOCUMENT)) {
            System.out.println("there is no " + DOCUMENT + " to hold the sentences against");
            return;
        }
        String document = flat(Files.readString(DOCUMENT));
        String rest = document.substring(document.indexOf("## Terms") + 8, document.indexOf("## Not promised"));
        for (String sentence : sentences()) {
            check.due("stands in the document: " + sentence, document.contains(sentence) ? 1 : 0, 1);
            rest = rest.replace(sentence, "#");
        }
        // headings, the face of a promise and the number of its act are no sentences
        rest = rest.replaceAll("Ahead of the calls .* the interface says: ----", "#").replaceAll("## Promise \\d+: [A-Za-z ]+? `[^`]*`:", "#")
                .replaceAll("Act \\d+\\.", "#").replace("======== 2 BODIES.", "#").replace("======== 3 ", "#").replace("======== 4 ", "#")
                .replace("======== 5 ", "#").replace("======== 6 ", "#").replaceAll("```(text)?", "#");
        for (String left : rest.split("#")) {
            check.due("named by a test", left.strip(), "");
        }
        check.done();
    }

    private static String flat(String text) {
        return text.replaceAll("\\s+", " ");
    }

    private static List<String> sentences() throws IOException {
        List<String> all = new ArrayList<>();
        try (DirectoryStream<Path> tests = Files.newDirectoryStream(Path.of("src/test/java"), "*Test.java")) {
            for (Path test : tests) {
                Matcher calls = LITERALS.matcher(Files.readString(test));
                while (calls.find()) {
                    StringBuilder sentence = new StringBuilder();
                    Matcher pieces = LITERAL.matcher(calls.group(1));
                    while (pieces.find()) {
                        sentence.append(pieces.group(1).replace("\\\"", "\""));
                    }
                    all.add(sentence.toString());
                }
            }
        }
        // the longest first, so that one that stands within another leaves nothing of it
        all.sort((a, b) -> b.length() - a.length());
        return all;
    }
}
