import java.io.IOException;
import java.nio.file.DirectoryStream;
import java.nio.file.Files;
import java.nio.file.Path;
import java.util.ArrayList;
import java.util.List;
import java.util.regex.Matcher;
import java.util.regex.Pattern;

/** The sentences that tests name stand in the document, and there is none in it that no test names. */
public final class DocumentTest {
    private static final Path DOCUMENT = Path.of("../shared/DOC.md");
    private static final Pattern LITERALS = Pattern.compile("sentence\\(((?:\\s*\\+?\\s*\"(?:[^\"\\\\]|\\\\.)*\")+)\\)");
    private static final Pattern LITERAL = Pattern.compile("\"((?:[^\"\\\\]|\\\\.)*)\"");
    /** Headings, the numbers of acts, and the face, which FaceTest holds against the class. */
    private static final String[] NO_SENTENCES = {"# ClaimsOffice ## What it is", "======== 1 DAYS are 0 \\.\\.",
        "## The public face ```java .*? ```", "## Terms", "======== 2 BODIES\\.", "======== [3-6] ", "```(text)?",
        "Ahead of the calls .* the interface says: ----", "## Promise \\d+: [A-Za-z ]+? `[^`]*`:", "Act \\d+\\."};
    private static final Check check = new Check();

    public static void main(String[] args) throws IOException {
        if (!Files.isReadable(DOCUMENT)) {
            System.out.println("there is no " + DOCUMENT + " to hold the sentences against");
            return;
        }
        String document = flat(Files.readString(DOCUMENT));
        face(document);
        promises(document);
        asks(document);
        // what stands behind "Not promised" is free
        String rest = document.substring(0, document.indexOf("## Not promised"));
        for (String sentence : sentences()) {
            check.due("stands in the document: " + sentence, document.contains(sentence) ? 1 : 0, 1);
            rest = rest.replace(sentence, "#");
        }
        for (String heading : NO_SENTENCES) {
            rest = rest.replaceAll(heading, "#");
        }
        for (String left : rest.split("#")) {
            check.due("named by a test", left.strip(), "");
        }
        check.done();
    }

    private static void face(String document) {
        check.due("the face", document.contains("## The public face ```java " + flat(Face.LINES) + "```") ? 1 : 0, 1);
    }

    /** Each promise stands by its line of the face. */
    private static void promises(String document) {
        List<String> due = Face.methods();
        due.add(0, "ClaimsOffice()");
        Matcher headings = Pattern.compile("## Promise (\\d+): [A-Za-z ]+? `([^`]+)`:").matcher(document);
        int number = 0;
        while (headings.find()) {
            check.due("the promise", Long.parseLong(headings.group(1)), number + 1);
            check.due("promise " + (number + 1), headings.group(2), number < due.size() ? due.get(number) : "");
            number++;
        }
        check.due("promises", number, due.size());
    }

    private static void asks(String document) {
        StringBuilder due = new StringBuilder();
        List<String> told = Face.methods();
        for (String method : told.subList(told.indexOf("long owed(int theCase, int day, int moment)"), told.size())) {
            due.append(due.length() == 0 ? "" : ", ").append(method.replaceAll("\\w+ (\\w+)\\(.*", "`$1`"));
        }
        Matcher asks = Pattern.compile("Ahead of the calls (.*) the interface says: ---- asks\\.").matcher(document);
        check.due("asks", asks.find() ? asks.group(1) : "", due.toString());
    }

    private static String flat(String text) {
        return text.replaceAll("\\s+", " ");
    }

    private static List<String> sentences() throws IOException {
        List<String> all = new ArrayList<>();
        try (DirectoryStream<Path> tests = Files.newDirectoryStream(Path.of("src/test/java"), "*Test.java")) {
            for (Path test : tests) {
                Matcher calls = LITERALS.matcher(Files.readString(test));
                while (calls.find()) {
                    StringBuilder sentence = new StringBuilder();
                    Matcher pieces = LITERAL.matcher(calls.group(1));
                    while (pieces.find()) {
                        sentence.append(pieces.group(1).replace("\\\"", "\""));
                    }
                    all.add(sentence.toString());
                }
            }
        }
        // the longest first, so that one that stands within another leaves nothing of it
        all.sort((a, b) -> b.length() - a.length());
        return all;
    }
}
