/** A ClaimsOffice that counts its calls: the document promises nothing about an object after its 512th call. */
final class Office {
    private final ClaimsOffice office = new ClaimsOffice();
    private final int mostCalls;
    private int calls;

    Office() {
        this(512);
    }

    /** For a test that has to look at more than 512 calls show. */
    Office(int mostCalls) {
        this.mostCalls = mostCalls;
    }

    private ClaimsOffice called() {
        calls++;
        if (calls > mostCalls) {
            throw new IllegalStateException("a test calls one object more than " + mostCalls + " times");
        }
        return office;
    }

    int calls() {
        return calls;
    }

    int person() {
        return called().person();
    }

    int rank(int insurer, int rank) {
        return called().rank(insurer, rank);
    }

    int policy(int kind, int person, int first, int last) {
        return called().policy(kind, person, first, last);
    }

    int bundle(int policy, int place, int part) {
        return called().bundle(policy, place, part);
    }

    int period(int policy, int year, long sum) {
        return called().period(policy, year, sum);
    }

    int type(long w, int n) {
        return called().type(w, n);
    }

    int clauses(int policy) {
        return called().clauses(policy);
    }

    int shareRule(int policy, int rule) {
        return called().shareRule(policy, rule);
    }

    int loss(int kind, int day) {
        return called().loss(kind, day);
    }

    int part(int whole, int hundredths) {
        return called().part(whole, hundredths);
    }

    int item(int loss, int sort, long amount, long value) {
        return called().item(loss, sort, amount, value);
    }

    int notify(int policy, int place, int loss, int day) {
        return called().notify(policy, place, loss, day);
    }

    int reserve(int theCase, int day, int kind, long cents) {
        return called().reserve(theCase, day, kind, cents);
    }

    int pay(int theCase, int day, long cents) {
        return called().pay(theCase, day, cents);
    }

    int close(int theCase, int day) {
        return called().close(theCase, day);
    }

    int reopen(int theCase, int day, int ground) {
        return called().reopen(theCase, day, ground);
    }

    int correct(int theCase, int day, int item, int what, long cents, int from) {
        return called().correct(theCase, day, item, what, cents, from);
    }

    int share(int theCase, int day, int insurer, long cents) {
        return called().share(theCase, day, insurer, cents);
    }

    int salvage(int theCase, int day, long cents) {
        return called().salvage(theCase, day, cents);
    }

    int recourse(int theCase, int day, long cents) {
        return called().recourse(theCase, day, cents);
    }

    int batch() {
        return called().batch();
    }

    int end() {
        return called().end();
    }

    int undo() {
        return called().undo();
    }

    long owed(int theCase, int day, int moment) {
        return called().owed(theCase, day, moment);
    }

    int finding() {
        return called().finding();
    }

    int row(int i, int what) {
        return called().row(i, what);
    }

    long cents(int i) {
        return called().cents(i);
    }

    int trace(int i) {
        return called().trace(i);
    }

    int say() {
        return called().say();
    }

    int tell(int policy, int moment) {
        return called().tell(policy, moment);
    }

    int letter(int i) {
        return called().letter(i);
    }

    long used(int policy, int year, int moment) {
        return called().used(policy, year, moment);
    }

    long left(int policy, int year, int moment) {
        return called().left(policy, year, moment);
    }

    long reserved(int kind, int year, int moment) {
        return called().reserved(kind, year, moment);
    }

    long run(int by, int i, int j, int moment) {
        return called().run(by, i, j, moment);
    }

    long factor(int by, int j, int y, int part, int moment) {
        return called().factor(by, j, y, part, moment);
    }

    int write() {
        return called().write();
    }

    int takeIn() {
        return called().takeIn();
    }

    int of(int theCase, int what) {
        return called().of(theCase, what);
    }

    int count(int what) {
        return called().count(what);
    }
}
