import java.util.ArrayList;
import java.util.List;
import java.util.regex.Matcher;
import java.util.regex.Pattern;

/** "The public face" in the document's own lines; DocumentTest holds them against it, FaceTest the class against them. */
final class Face {
    static final String LINES = """
            public final class ClaimsOffice {
                public static final int NONE = -1, BAD = -2, STATE = -3, DAY = -4, LATE = -5, MUCH = -6, FULL = -7, HELD = -8;
                public static final long NO_ANSWER = Long.MIN_VALUE;
                public ClaimsOffice();
                public int person();
                public int rank(int insurer, int rank);
                public int policy(int kind, int person, int first, int last);
                public int bundle(int policy, int place, int part);
                public int period(int policy, int year, long sum);
                public int type(long w, int n);
                public int clauses(int policy);
                public int shareRule(int policy, int rule);
                public int loss(int kind, int day);
                public int part(int whole, int hundredths);
                public int item(int loss, int sort, long amount, long value);
                public int notify(int policy, int place, int loss, int day);
                public int reserve(int theCase, int day, int kind, long cents);
                public int pay(int theCase, int day, long cents);
                public int close(int theCase, int day);
                public int reopen(int theCase, int day, int ground);
                public int correct(int theCase, int day, int item, int what, long cents, int from);
                public int share(int theCase, int day, int insurer, long cents);
                public int salvage(int theCase, int day, long cents);
                public int recourse(int theCase, int day, long cents);
                public int batch();
                public int end();
                public int undo();
                public long owed(int theCase, int day, int moment);
                public int finding();
                public int row(int i, int what);
                public long cents(int i);
                public int trace(int i);
                public int say();
                public int tell(int policy, int moment);
                public int letter(int i);
                public long used(int policy, int year, int moment);
                public long left(int policy, int year, int moment);
                public long reserved(int kind, int year, int moment);
                public long run(int by, int i, int j, int moment);
                public long factor(int by, int j, int y, int part, int moment);
                public int write();
                public int takeIn();
                public int of(int theCase, int what);
                public int count(int what);
            }
            """;

    private Face() {
    }

    /** Each method as the document writes it: "int rank(int insurer, int rank)". */
    static List<String> methods() {
        List<String> told = new ArrayList<>();
        Matcher lines = Pattern.compile("public ((?:int|long) \\w+\\([^)]*\\));").matcher(LINES);
        while (lines.find()) {
            told.add(lines.group(1));
        }
        return told;
    }
}
