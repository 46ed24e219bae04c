/** An office with the turns that tests need again and again. */
final class Desk {
    final Office office = new Office();
    final Check check;

    Desk(Check check) {
        this.check = check;
    }

    /** An office with a person, a POLICY 0 of that kind for days 0 .. 1094 and the same SUM in its three YEARS. */
    static Desk with(Check check, int kind, long sum) {
        Desk desk = new Desk(check);
        desk.office.person();
        desk.office.policy(kind, 0, 0, 1094);
        for (int year = 0; year < 3; year++) {
            desk.office.period(0, year, sum);
        }
        return desk;
    }

    /** A LOSS with one ITEM of SORT 0, notified to POLICY 0 on its day: the number of the case. */
    int claim(int kind, int day, long amount, long value) {
        int loss = office.loss(kind, day);
        office.item(loss, 0, amount, value);
        return office.notify(0, -1, loss, day);
    }

    /** THE TAPE has these bytes alone. */
    void type(String bytes) {
        office.type(0, 0);
        Tape.type(office, bytes);
    }

    int clauses(int policy, String text) {
        type(text);
        return office.clauses(policy);
    }

    String said() {
        StringBuilder said = new StringBuilder();
        int size = office.count(9);
        for (int i = 0; i < size; i++) {
            said.append((char) office.letter(i));
        }
        return said.toString();
    }

    /** THE LOG as numbers, with its check. */
    String written() {
        office.write();
        return numbers(said());
    }

    static String numbers(String bytes) {
        StringBuilder all = new StringBuilder();
        for (int i = 0; i < bytes.length(); i++) {
            all.append(i == 0 ? "" : " ").append((int) bytes.charAt(i));
        }
        return all.toString();
    }

    /** Bytes with their check behind them. */
    static String checked(int... bytes) {
        StringBuilder all = new StringBuilder();
        int h = 0;
        for (int b : bytes) {
            all.append((char) b);
            h = 31 * h + b;
        }
        for (int shift = 24; shift >= 0; shift -= 8) {
            all.append((char) (h >>> shift & 255));
        }
        return all.toString();
    }

    int takeIn(String bytes) {
        type(bytes);
        return office.takeIn();
    }

    long now() {
        return office.count(4);
    }

    long owed(int theCase, int day) {
        return office.owed(theCase, day, office.count(4));
    }

    /** What is owed of a case on a day as known now, its FINDING and its rows: code, argument and cents of each. */
    String rows(int theCase, int day) {
        StringBuilder all = new StringBuilder();
        long owed = owed(theCase, day);
        all.append(owed == ClaimsOffice.NO_ANSWER ? "none" : "" + owed).append(" f").append(office.finding());
        for (int i = 0; office.row(i, 0) != ClaimsOffice.NONE; i++) {
            all.append(" | ").append(office.row(i, 0)).append(' ').append(office.row(i, 1)).append(' ')
                    .append(office.cents(i));
        }
        return all.toString();
    }

    /** TRACE of what was LOOKED AT. */
    String trace() {
        StringBuilder all = new StringBuilder();
        for (int i = 0; office.trace(i) != ClaimsOffice.NONE; i++) {
            all.append(i == 0 ? "" : " ").append(office.trace(i));
        }
        return all.toString();
    }

    void due(String call, long got, long want) {
        check.due(call, got, want);
    }

    void due(String call, String got, String want) {
        check.due(call, got, want);
    }

    void dueRows(int theCase, int day, String want) {
        check.due("rows of case " + theCase + " on day " + day, rows(theCase, day), want);
    }
}
