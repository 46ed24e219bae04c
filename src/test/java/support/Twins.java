import java.util.function.Consumer;
import java.util.function.ToLongFunction;

/** Offices with the same past, one of which is asked what is refused: it must then be as the other. */
final class Twins {
    private final Check check;
    private final Consumer<Office> past;

    Twins(Check check, Consumer<Office> past) {
        this.check = check;
        this.past = past;
    }

    void refused(String what, ToLongFunction<Office> call, long want) {
        refused(what, call, want, 0);
    }

    /** So many FINDINGS are met by it, and stay counted. */
    void refused(String what, ToLongFunction<Office> call, long want, int findings) {
        Office asked = new Office();
        past.accept(asked);
        Office other = new Office();
        past.accept(other);
        check.due(what, call.applyAsLong(asked), want);
        check.due(what + " changes nothing", portrait(asked, findings), portrait(other, 0));
    }

    /** What an office is like, within a hundred calls or so. */
    private static String portrait(Office o, int findings) {
        StringBuilder all = new StringBuilder();
        for (int what = 0; what < 10; what++) {
            all.append(o.count(what)).append(' ');
        }
        all.append(o.count(10) - findings).append(" / ").append(o.finding()).append(' ');
        for (int i = 0; i < 3; i++) {
            all.append(o.row(i, 0)).append(' ').append(o.row(i, 1)).append(' ').append(o.cents(i)).append(' ')
                    .append(o.trace(i)).append(' ').append(o.letter(i)).append(' ');
        }
        boolean underWay = o.count(5) > o.count(6);
        all.append(underWay ? o.end() : 0).append(" / ");
        int now = o.count(4);
        for (int c = 0; c < 2 && c < o.count(3); c++) {
            for (int what = 0; what <= 6; what++) {
                all.append(o.of(c, what)).append(' ');
            }
            all.append(o.owed(c, 10949, now)).append(' ').append(o.finding()).append(' ').append(o.say()).append(" / ");
        }
        for (int p = 0; p < 2 && p < o.count(1); p++) {
            all.append(o.tell(p, now)).append(' ').append(o.used(p, 0, now)).append(' ').append(o.left(p, 0, now)).append(" / ");
        }
        all.append(o.reserved(0, 0, now)).append(' ').append(o.reserved(1, 0, now)).append(' ').append(o.run(0, 0, 0, now))
                .append(' ').append(o.factor(1, 0, 5, 1, now)).append(' ');
        // the last four bytes of THE LOG tell of all of it
        int size = o.write();
        all.append(size);
        for (int k = 4; k >= 1; k--) {
            all.append(' ').append(o.letter(size - k));
        }
        // what is told or made next goes on as it would have
        all.append(" / ").append(o.person()).append(' ').append(o.loss(0, 5)).append(' ').append(o.rank(0, 1)).append(' ')
                .append(o.policy(6, 0, 0, 5)).append(' ').append(o.bundle(o.count(1) - 1, 0, -1)).append(' ')
                .append(o.period(0, 0, 5)).append(' ').append(o.shareRule(0, 1)).append(' ').append(o.item(0, 0, 5, 5)).append(' ')
                .append(o.clauses(0)).append(' ').append(o.tell(0, o.count(4))).append(' ').append(o.reserve(0, 10949, 0, 5))
                .append(' ').append(o.takeIn()).append(' ').append(o.count(4));
        return all.toString();
    }
}
