import java.util.Arrays;

/** An insurer's claims in two times: what is owed on a day, as known at a moment. */
public final class ClaimsOffice {
    public static final int NONE = -1, BAD = -2, STATE = -3, DAY = -4, LATE = -5, MUCH = -6, FULL = -7, HELD = -8;
    public static final long NO_ANSWER = Long.MIN_VALUE;

    // The acts, by their numbers in THE LOG.
    private static final int ACT_PERSON = 1, ACT_RANK = 2, ACT_POLICY = 3, ACT_BUNDLE = 4, ACT_PERIOD = 5;
    private static final int ACT_CLAUSES = 6, ACT_RULE = 7, ACT_LOSS = 8, ACT_PART = 9, ACT_ITEM = 10;
    private static final int ACT_NOTIFY = 11, ACT_RESERVE = 12, ACT_PAY = 13, ACT_CLOSE = 14, ACT_REOPEN = 15;
    private static final int ACT_CORRECT = 16, ACT_SHARE = 17, ACT_SALVAGE = 18, ACT_RECOURSE = 19;
    private static final int ACT_BATCH = 20, ACT_END = 21, ACT_UNDO = 22;
    private static final int LAST_ACT = 22;

    /** How many arguments an act has in THE LOG (of CLAUSES those ahead of the text). */
    private static final int[] ARGUMENTS = {0, 0, 2, 4, 3, 3, 1, 2, 2, 2, 4, 4, 4, 3, 2, 3, 6, 4, 3, 3, 0, 0, 0};
    /** Which arguments are longs, a bit for each. */
    private static final int[] LONGS = {0, 0, 0, 0, 0, 4, 0, 0, 0, 0, 12, 0, 8, 4, 0, 0, 16, 8, 4, 4, 0, 0, 0};

    /** A deed is an act with its arguments: its number, then six places. */
    private static final int DEED = 7;

    private static final int LAST_DAY = 10949, DAYS_OF_YEAR = 365, YEARS = 30;
    private static final long MOST_MONEY = 1000000000000L;
    private static final long GREATEST = 1L << 62;
    private static final int INSURERS = 6, PLACES = 4, MOST_ITEMS = 6, MOST_PARTS = 4;
    private static final int MOST_PERSONS = 100, MOST_POLICIES = 100, MOST_LOSSES = 200, MOST_CASES = 100;
    private static final int MOST_FACTS = 40, MOST_HELD = 60, MOST_FINDINGS = 2500, MOST_TAKINGS = 40;
    private static final int MOST_TAPE = 6000, MOST_TEXT = 400, MOST_CLAUSES = 30, MOST_OPEN = 20;
    private static final int MOST_ROWS = 13, MOST_TRACE = 200;
    /** THE LOG has no bound in the document; no run of calls comes near this one. */
    private static final int MOST_BYTES = 1 << 28;
    /** What brackets allow is some 43 levels of a COND. */
    private static final int DEEPEST = 64;

    private static final int FIRE = 0, WATER = 1, THEFT = 2, STORM = 3, THIRD = 4, PART = 5;
    private static final int BUNDLE = 6;

    private static final int ROW_WORTH = 0, ROW_OUT = 1, ROW_WAIT = 2, ROW_AVERAGE = 3, ROW_SELF = 4, ROW_OWN = 5;
    private static final int ROW_LIMIT = 6, ROW_SHARED = 7, ROW_OWN_YEAR = 8, ROW_YEAR = 9, ROW_SALVAGE = 10;
    private static final int ROW_INTEREST = 11, ROW_PAID = 12;
    private static final int ROW_WIDTH = 8;
    private static final String ROW_NAMES =
            "worth   out     wait    average self    own     limit   shared  ownyear year    salvage interestpaid    ";

    private static final int NOTHING = 1, NOT_THAT_KIND = 2, OUTSIDE = 3, NOUGHT = 4, GREAT = 5;

    private final Bytes tape = new Bytes();
    private final Bytes text = new Bytes();
    private final Bytes said = new Bytes();
    private final long[] deed = new long[DEED];
    private final Working working = new Working(new Working(null));
    private final Reader reader = new Reader();
    private final Stock stock = new Stock();
    private Book book = new Book(working, reader, stock);
    /** Where takeIn() does the acts of THE TAPE, once there was such a call; it has nothing between them. */
    private Book spare;
    private View looked = new View();
    private int takings;

    public ClaimsOffice() {
    }

    // ---- acts

    public int person() {
        fill(ACT_PERSON, 0, 0, 0, 0);
        return book.perform(deed, text);
    }

    public int rank(int insurer, int rank) {
        fill(ACT_RANK, insurer, rank, 0, 0);
        return book.perform(deed, text);
    }

    public int policy(int kind, int person, int first, int last) {
        fill(ACT_POLICY, kind, person, first, last);
        return book.perform(deed, text);
    }

    public int bundle(int policy, int place, int part) {
        fill(ACT_BUNDLE, policy, place, part, 0);
        return book.perform(deed, text);
    }

    public int period(int policy, int year, long sum) {
        fill(ACT_PERIOD, policy, year, sum, 0);
        return book.perform(deed, text);
    }

    public int type(long w, int n) {
        if (n < 0 || n > 8) {
            return BAD;
        }
        if (n == 0) {
            tape.clear();
        }
        if (tape.size + n > MOST_TAPE) {
            return FULL;
        }
        for (int k = n - 1; k >= 0; k--) {
            tape.put((int) (w >>> (8 * k)) & 255);
        }
        return tape.size;
    }

    public int clauses(int policy) {
        fill(ACT_CLAUSES, policy, 0, 0, 0);
        int answer = book.perform(deed, tape);
        if (answer >= 0) {
            tape.clear();
        }
        return answer;
    }

    public int shareRule(int policy, int rule) {
        fill(ACT_RULE, policy, rule, 0, 0);
        return book.perform(deed, text);
    }

    public int loss(int kind, int day) {
        fill(ACT_LOSS, kind, day, 0, 0);
        return book.perform(deed, text);
    }

    public int part(int whole, int hundredths) {
        fill(ACT_PART, whole, hundredths, 0, 0);
        return book.perform(deed, text);
    }

    public int item(int loss, int sort, long amount, long value) {
        fill(ACT_ITEM, loss, sort, amount, value);
        return book.perform(deed, text);
    }

    public int notify(int policy, int place, int loss, int day) {
        fill(ACT_NOTIFY, policy, place, loss, day);
        return book.perform(deed, text);
    }

    public int reserve(int theCase, int day, int kind, long cents) {
        fill(ACT_RESERVE, theCase, day, kind, cents);
        return book.perform(deed, text);
    }

    public int pay(int theCase, int day, long cents) {
        fill(ACT_PAY, theCase, day, cents, 0);
        return book.perform(deed, text);
    }

    public int close(int theCase, int day) {
        fill(ACT_CLOSE, theCase, day, 0, 0);
        return book.perform(deed, text);
    }

    public int reopen(int theCase, int day, int ground) {
        fill(ACT_REOPEN, theCase, day, ground, 0);
        return book.perform(deed, text);
    }

    public int correct(int theCase, int day, int item, int what, long cents, int from) {
        fill(ACT_CORRECT, theCase, day, item, what);
        deed[5] = cents;
        deed[6] = from;
        return book.perform(deed, text);
    }

    public int share(int theCase, int day, int insurer, long cents) {
        fill(ACT_SHARE, theCase, day, insurer, cents);
        return book.perform(deed, text);
    }

    public int salvage(int theCase, int day, long cents) {
        fill(ACT_SALVAGE, theCase, day, cents, 0);
        return book.perform(deed, text);
    }

    public int recourse(int theCase, int day, long cents) {
        fill(ACT_RECOURSE, theCase, day, cents, 0);
        return book.perform(deed, text);
    }

    public int batch() {
        fill(ACT_BATCH, 0, 0, 0, 0);
        return book.perform(deed, text);
    }

    public int end() {
        fill(ACT_END, 0, 0, 0, 0);
        return book.perform(deed, text);
    }

    public int undo() {
        fill(ACT_UNDO, 0, 0, 0, 0);
        return book.perform(deed, text);
    }

    private void fill(int act, long first, long second, long third, long fourth) {
        deed[0] = act;
        deed[1] = first;
        deed[2] = second;
        deed[3] = third;
        deed[4] = fourth;
        deed[5] = 0;
        deed[6] = 0;
    }

    // ---- asks

    public long owed(int theCase, int day, int moment) {
        Case asked = book.caseAt(theCase);
        if (asked == null || working.met >= MOST_FINDINGS || day < asked.notice || day > LAST_DAY
                || moment < asked.moment || moment > book.now) {
            return NO_ANSWER;
        }
        working.settle(book, asked, day, moment);
        View seen = working.view;
        working.view = looked;
        looked = seen;
        return looked.finding != 0 ? NO_ANSWER : looked.total();
    }

    public int finding() {
        return looked.finding;
    }

    public int row(int i, int what) {
        if (what != 0 && what != 1) {
            return BAD;
        }
        if (i < 0 || i >= looked.rows) {
            return NONE;
        }
        return what == 0 ? looked.codes[i] : looked.arguments[i];
    }

    public long cents(int i) {
        return i < 0 || i >= looked.rows ? 0 : looked.cents[i];
    }

    public int trace(int i) {
        return i < 0 || i >= looked.traced ? NONE : looked.marks[i];
    }

    public int say() {
        said.clear();
        for (int i = 0; i < looked.rows; i++) {
            said.putWord(ROW_NAMES, looked.codes[i] * ROW_WIDTH, ROW_WIDTH);
            said.put(' ');
            said.putDecimal(looked.cents[i]);
            said.put('\n');
        }
        return said.size;
    }

    public int tell(int policy, int moment) {
        Policy asked = coverAsked(policy, moment);
        if (asked == null) {
            return BAD;
        }
        said.clear();
        for (Node clause = asked.clausesAt(moment); clause != null; clause = clause.next) {
            Node.writeClause(clause, said);
        }
        return said.size;
    }

    public int letter(int i) {
        return said.byteAt(i);
    }

    public long used(int policy, int year, int moment) {
        Policy asked = coverAsked(policy, moment);
        if (asked == null || !isYear(year)) {
            return NO_ANSWER;
        }
        return book.usedOf(asked, year, moment);
    }

    public long left(int policy, int year, int moment) {
        Policy asked = coverAsked(policy, moment);
        if (asked == null || !isYear(year)) {
            return NO_ANSWER;
        }
        Node limit = Node.lastOf(asked.clausesAt(moment), Node.YEAR);
        return limit == null ? NO_ANSWER : limit.number - book.usedOf(asked, year, moment);
    }

    public long reserved(int kind, int year, int moment) {
        if (kind < 0 || kind > 2 || !isYear(year) || !isMoment(moment)) {
            return NO_ANSWER;
        }
        return book.reservedOf(kind, year, moment);
    }

    public long run(int by, int i, int j, int moment) {
        if (by < 0 || by > 1 || !isYear(i) || !isYear(j) || !isMoment(moment)) {
            return NO_ANSWER;
        }
        return book.paidWithin(by, i, i, j, moment) - book.paidWithin(by, i, i, j - 1, moment);
    }

    public long factor(int by, int j, int y, int part, int moment) {
        if (by < 0 || by > 1 || !isYear(j) || !isYear(y) || part < 0 || part > 1 || !isMoment(moment)) {
            return NO_ANSWER;
        }
        long above = book.paidWithin(by, 0, y - j - 1, j + 1, moment);
        long below = book.paidWithin(by, 0, y - j - 1, j, moment);
        if (below == 0) {
            return NO_ANSWER;
        }
        long divisor = greatestDivisor(above, below);
        return (part == 0 ? above : below) / divisor;
    }

    public int write() {
        if (book.underWay) {
            return STATE;
        }
        said.clear();
        for (int i = 0; i < book.log.size; i++) {
            said.put(book.log.byteAt(i));
        }
        int check = book.log.checkOf(book.log.size);
        for (int shift = 24; shift >= 0; shift -= 8) {
            said.put(check >>> shift & 255);
        }
        return said.size;
    }

    public int takeIn() {
        if (book.underWay) {
            return STATE;
        }
        if (takings >= MOST_TAKINGS) {
            return FULL;
        }
        takings++;
        int end = tape.size - 4;
        Book fresh = spare == null ? new Book(working, reader, stock) : spare;
        int fault = end < 0 ? 0 : NONE;
        int acts = 0;
        tape.startReading();
        for (int step = 0; step < MOST_TAPE && fault == NONE && tape.at < end; step++) {
            int first = tape.at;
            if (readDeed(end) && !isRefused(fresh.perform(deed, text))) {
                acts++;
            } else {
                fault = first;
            }
        }
        if (fault == NONE && !checkStandsAt(end)) {
            fault = end;
        }
        spare = fault == NONE ? book : fresh;
        spare.clear();
        if (fault != NONE) {
            return -10 - fault;
        }
        book = fresh;
        tape.clear();
        return acts;
    }

    public int of(int theCase, int what) {
        Case asked = book.caseAt(theCase);
        if (asked == null) {
            return BAD;
        }
        switch (what) {
            case 0: return asked.policy.number;
            case 1: return asked.place;
            case 2: return asked.loss.number;
            case 3: return asked.notice;
            case 4: return asked.isOpen(book.now, LAST_DAY) ? 1 : 0;
            case 5: return asked.size;
            case 6: return asked.moment;
            default: return BAD;
        }
    }

    public int count(int what) {
        switch (what) {
            case 0: return book.persons;
            case 1: return book.policyCount;
            case 2: return book.lossCount;
            case 3: return book.caseCount;
            case 4: return book.now;
            case 5: return book.batches;
            case 6: return book.tries;
            case 7: return book.heldCount;
            case 8: return tape.size;
            case 9: return said.size;
            case 10: return working.met;
            default: return BAD;
        }
    }

    // ---- what asks need

    private boolean isMoment(int moment) {
        return moment >= 0 && moment <= book.now;
    }

    private static boolean isYear(int year) {
        return year >= 0 && year < YEARS;
    }

    private static boolean isDay(long day) {
        return day >= 0 && day <= LAST_DAY;
    }

    private static boolean isMoney(long cents) {
        return cents >= 0 && cents <= MOST_MONEY;
    }

    /** The POLICY of that number at a moment there is, but for a BUNDLE: that has no clauses and is no COVER. */
    private Policy coverAsked(int policy, int moment) {
        Policy asked = book.policyAt(policy);
        return asked == null || asked.kind == BUNDLE || !isMoment(moment) ? null : asked;
    }

    private static long greatestDivisor(long a, long b) {
        long greater = a;
        long lesser = b;
        for (int step = 0; step < 200 && lesser != 0; step++) {
            long rest = greater % lesser;
            greater = lesser;
            lesser = rest;
        }
        return greater == 0 ? 1 : greater;
    }

    /** Takes the next act off THE TAPE; false if it is not as told, or does not end ahead of that place. */
    private boolean readDeed(int end) {
        long act = tape.readNumber(end);
        if (tape.broken || act < 1 || act > LAST_ACT) {
            return false;
        }
        fill((int) act, 0, 0, 0, 0);
        for (int k = 0; k < ARGUMENTS[(int) act]; k++) {
            long value = tape.readNumber(end);
            boolean fits = value == (int) value || (LONGS[(int) act] >> k & 1) == 1;
            if (tape.broken || !fits) {
                return false;
            }
            deed[k + 1] = value;
        }
        return act != ACT_CLAUSES || readText(end);
    }

    private boolean readText(int end) {
        text.clear();
        long size = tape.readNumber(end);
        if (tape.broken || size < 0 || size > MOST_TEXT) {
            return false;
        }
        for (int i = 0; i < size; i++) {
            long b = tape.readNumber(end);
            if (tape.broken || b < 0 || b > 255) {
                return false;
            }
            text.put((int) b);
        }
        return true;
    }

    private boolean isRefused(int answer) {
        boolean undone = deed[0] == ACT_END && answer <= -20;
        return answer < 0 && answer != HELD && !undone;
    }

    private boolean checkStandsAt(int end) {
        int check = tape.checkOf(end);
        for (int k = 0; k < 4; k++) {
            if (tape.byteAt(end + k) != (check >>> (24 - 8 * k) & 255)) {
                return false;
            }
        }
        return true;
    }

    /** A row of bytes that grows; THE TAPE, THE LOG and what is said. */
    private static final class Bytes {
        byte[] data = new byte[64];
        int size;
        int at;
        boolean broken;

        void clear() {
            size = 0;
        }

        void put(int b) {
            if (size >= data.length) {
                if (size >= MOST_BYTES) {
                    return;
                }
                data = Arrays.copyOf(data, 2 * size);
            }
            data[size] = (byte) b;
            size++;
        }

        int byteAt(int i) {
            return i < 0 || i >= size ? NONE : data[i] & 255;
        }

        void putWord(String table, int from, int width) {
            for (int i = from; i < from + width && i < table.length() && table.charAt(i) != ' '; i++) {
                put(table.charAt(i));
            }
        }

        void putDecimal(long value) {
            if (value < 0) {
                put('-');
            }
            long rest = Math.abs(value);
            long power = 1;
            for (int digit = 0; digit < 18 && rest / power >= 10; digit++) {
                power *= 10;
            }
            for (int digit = 0; digit < 19 && power > 0; digit++) {
                put((int) ('0' + rest / power % 10));
                power /= 10;
            }
        }

        void putNumber(long value) {
            long rest = value << 1 ^ value >> 63;
            for (int group = 0; group < 10; group++) {
                int low = (int) (rest & 127);
                rest >>>= 7;
                put(rest == 0 ? low : low + 128);
                if (rest == 0) {
                    return;
                }
            }
        }

        void startReading() {
            at = 0;
            broken = false;
        }

        /** Marks itself as broken where no number stands that ends ahead of that place. */
        long readNumber(int end) {
            long whole = 0;
            for (int group = 0; group < 10 && at < end && at < size; group++) {
                int b = data[at] & 255;
                at++;
                if (group == 9 && b > 1) {
                    break;
                }
                whole |= (long) (b & 127) << (7 * group);
                if (b < 128) {
                    broken = broken || b == 0 && group > 0;
                    return whole >>> 1 ^ -(whole & 1);
                }
            }
            broken = true;
            return 0;
        }

        int checkOf(int end) {
            int check = 0;
            for (int i = 0; i < end && i < size; i++) {
                check = 31 * check + (data[i] & 255);
            }
            return check;
        }
    }

    /** What was told, or a FACT: it counts from its moment on. */
    private static final class Entry {
        int act;
        /** The INSURER, PLACE or YEAR that it is told of; the kind, ground, INSURER or ITEM of a FACT. */
        int which;
        int moment;
        /** The cents, or the number that was told. */
        long value;
        Node clauses;
        Entry before;
        // FACTS alone have these:
        int day;
        int what;
        int from;
        /** What of it was PAID of INTEREST. */
        long interest;

        /** The last one of that act that is known; last is where the chain begins. */
        static Entry known(Entry last, int act, int which, int moment) {
            for (Entry entry = last; entry != null; entry = entry.before) {
                if (entry.act == act && entry.which == which && entry.moment <= moment) {
                    return entry;
                }
            }
            return null;
        }

        boolean counts(int asked, int known, int lastDay) {
            return act == asked && moment <= known && day <= lastDay;
        }
    }

    private static final class Policy {
        int number;
        int kind;
        int first;
        int last;
        /** What was told of it, the last one first. */
        Entry told;
        /** The next one in the stock. */
        Policy idle;

        Node clausesAt(int moment) {
            Entry last = Entry.known(told, ACT_CLAUSES, 0, moment);
            return last == null ? null : last.clauses;
        }

        boolean hasYear(int year) {
            return year >= first / DAYS_OF_YEAR && year <= last / DAYS_OF_YEAR;
        }
    }

    private static final class Loss {
        int number;
        int kind;
        int day;
        Loss whole;
        int hundredths;
        final int[] sorts = new int[MOST_ITEMS];
        /** AMOUNT and VALUE of each ITEM, one behind the other; 0 where there is none. */
        final long[] money = new long[2 * MOST_ITEMS];
        int items;
        boolean notified;
        /** The next one in the stock. */
        Loss idle;

        /** The LOSS that has the ITEMS. */
        Loss base() {
            Loss base = this;
            for (int step = 0; step < MOST_PARTS && base.whole != null; step++) {
                base = base.whole;
            }
            return base;
        }

        int partsToBase() {
            int parts = 0;
            Loss at = this;
            for (int step = 0; step < MOST_PARTS && at.whole != null; step++) {
                at = at.whole;
                parts++;
            }
            return parts;
        }
    }

    private static final class Case {
        Policy policy;
        int place;
        Loss loss;
        int notice;
        int moment;
        /** Its FACTS, the last one first. */
        Entry facts;
        int size;
        /** The next one in the stock. */
        Case idle;

        /** The last FACT of an act that is known; null if there is none. */
        Entry lastFact(int act, int known, int day) {
            for (Entry fact = facts; fact != null; fact = fact.before) {
                if (fact.counts(act, known, day)) {
                    return fact;
                }
            }
            return null;
        }

        boolean isOpen(int known, int day) {
            Entry closed = lastFact(ACT_CLOSE, known, day);
            Entry reopened = lastFact(ACT_REOPEN, known, day);
            return closed == null || reopened != null && reopened.moment > closed.moment;
        }

        int earliestDay() {
            return facts == null ? notice : facts.day;
        }

        long sumOf(int act, int known, int day) {
            long sum = 0;
            for (Entry fact = facts; fact != null; fact = fact.before) {
                if (fact.act == act && fact.moment <= known && fact.day <= day) {
                    sum += fact.value;
                }
            }
            return sum;
        }

        long paidOfInterest(int known) {
            long sum = 0;
            for (Entry fact = facts; fact != null; fact = fact.before) {
                sum += fact.moment <= known ? fact.interest : 0;
            }
            return sum;
        }

        /** What was PAID of s, without that of INTEREST. */
        long paidOfWorth(int known) {
            return sumOf(ACT_PAY, known, LAST_DAY) - paidOfInterest(known);
        }
    }

    /** What nobody uses any more: it is used again, so that a run makes no more than it has in use at once. */
    private static final class Stock {
        private Entry entries;
        private Policy policies;
        private Loss losses;
        private Case cases;

        Entry drawEntry(int act, int which, int moment, long value, Node clauses, Entry before) {
            Entry drawn = entries == null ? new Entry() : entries;
            entries = drawn.before;
            drawn.act = act;
            drawn.which = which;
            drawn.moment = moment;
            drawn.value = value;
            drawn.clauses = clauses;
            drawn.before = before;
            return drawn;
        }

        void putBack(Entry entry) {
            entry.before = entries;
            entries = entry;
        }

        void putBackAll(Entry last) {
            Entry before;
            for (Entry entry = last; entry != null; entry = before) {
                before = entry.before;
                putBack(entry);
            }
        }

        Policy drawPolicy(int number, int kind, int first, int last) {
            Policy drawn = policies == null ? new Policy() : policies;
            policies = drawn.idle;
            drawn.number = number;
            drawn.kind = kind;
            drawn.first = first;
            drawn.last = last;
            drawn.told = null;
            return drawn;
        }

        void putBackPolicy(Policy policy) {
            putBackAll(policy.told);
            policy.idle = policies;
            policies = policy;
        }

        Loss drawLoss(int number, int kind, int day, Loss whole, int hundredths) {
            Loss drawn = losses == null ? new Loss() : losses;
            losses = drawn.idle;
            drawn.number = number;
            drawn.kind = kind;
            drawn.day = day;
            drawn.whole = whole;
            drawn.hundredths = hundredths;
            drawn.items = 0;
            drawn.notified = false;
            Arrays.fill(drawn.money, 0);
            return drawn;
        }

        void putBackLoss(Loss loss) {
            loss.idle = losses;
            losses = loss;
        }

        Case drawCase(Policy policy, int place, Loss loss, int notice, int moment) {
            Case drawn = cases == null ? new Case() : cases;
            cases = drawn.idle;
            drawn.policy = policy;
            drawn.place = place;
            drawn.loss = loss;
            drawn.notice = notice;
            drawn.moment = moment;
            drawn.facts = null;
            drawn.size = 0;
            return drawn;
        }

        void putBackCase(Case theCase) {
            putBackAll(theCase.facts);
            theCase.idle = cases;
            cases = theCase;
        }
    }

    /** All that an office has: what was told and done, with its LOG. */
    private static final class Book {
        /** How often what an act tells may be told; 0: the act tells nothing anew. */
        private static final int[] MOST_TOLD = {0, 0, 60, 0, 200, 300, 150, 150};
        /** Where the cents of a FACT are in its deed; 0: it has none. */
        private static final int[] CENTS_AT = {0, 0, 0, 0, 0, 0, 0, 0, 0, 0, 0, 0, 4, 3, 0, 0, 5, 4, 3, 3};

        final Working working;
        final Reader reader;
        final Stock stock;
        final Bytes log = new Bytes();
        final Policy[] policies = new Policy[MOST_POLICIES];
        final Loss[] losses = new Loss[MOST_LOSSES];
        final Case[] cases = new Case[MOST_CASES];
        final int[] tellings = new int[MOST_TOLD.length];
        final long[] held = new long[MOST_HELD * DEED];
        final int[] queue = new int[MOST_POLICIES];
        Entry ranks;
        int persons;
        int policyCount;
        int lossCount;
        int caseCount;
        int now;
        int batches;
        int tries;
        int heldCount;
        boolean underWay;

        Book(Working working, Reader reader, Stock stock) {
            this.working = working;
            this.reader = reader;
            this.stock = stock;
        }

        /** As a new one is; all that it had goes back. */
        void clear() {
            giveBack();
            ranks = null;
            persons = 0;
            policyCount = 0;
            lossCount = 0;
            caseCount = 0;
            now = 0;
            batches = 0;
            tries = 0;
            heldCount = 0;
            underWay = false;
            log.clear();
            Arrays.fill(tellings, 0);
        }

        private void giveBack() {
            stock.putBackAll(ranks);
            for (int i = 0; i < caseCount; i++) {
                stock.putBackCase(cases[i]);
            }
            for (int i = 0; i < lossCount; i++) {
                stock.putBackLoss(losses[i]);
            }
            for (int i = 0; i < policyCount; i++) {
                for (Entry told = policies[i].told; told != null; told = told.before) {
                    reader.putBack(told.clauses);
                }
                stock.putBackPolicy(policies[i]);
            }
        }

        Policy policyAt(long number) {
            return number < 0 || number >= policyCount ? null : policies[(int) number];
        }

        Loss lossAt(long number) {
            return number < 0 || number >= lossCount ? null : losses[(int) number];
        }

        Case caseAt(long number) {
            return number < 0 || number >= caseCount ? null : cases[(int) number];
        }

        /** Does an act, or holds it in a BATCH; text is that of CLAUSES. */
        int perform(long[] deed, Bytes text) {
            int act = (int) deed[0];
            if (act >= ACT_RESERVE && act <= ACT_RECOURSE) {
                int answer = underWay ? holdFact(deed) : doFact(deed, 0);
                if (answer == 1) {
                    logDeed(deed, 0, text);
                }
                return answer;
            }
            if (underWay != (act == ACT_END || act == ACT_UNDO)) {
                return STATE;
            }
            if (act == ACT_BATCH) {
                underWay = true;
                batches++;
                return batches;
            }
            if (act == ACT_UNDO) {
                return finishBatch(act, heldCount);
            }
            if (act == ACT_END) {
                int before = now;
                int refused = NONE;
                for (int i = 0; i < heldCount && refused == NONE; i++) {
                    if (doFact(held, i * DEED) != 1) {
                        refused = i;
                        forgetBehind(before);
                    }
                }
                return finishBatch(act, refused == NONE ? heldCount : -20 - refused);
            }
            int answer = act == ACT_CLAUSES ? tellClauses(deed, text) : tellOrMake(deed);
            if (answer >= 0) {
                now++;
                logDeed(deed, 0, text);
            }
            return answer;
        }

        private int tellOrMake(long[] deed) {
            switch ((int) deed[0]) {
                case ACT_PERSON: return makePerson();
                case ACT_RANK: return tellRank(deed);
                case ACT_POLICY: return makePolicy(deed);
                case ACT_BUNDLE: return tellBundle(deed);
                case ACT_PERIOD: return tellPeriod(deed);
                case ACT_RULE: return tellRule(deed);
                case ACT_LOSS: return makeLoss(deed);
                case ACT_PART: return makePart(deed);
                case ACT_ITEM: return makeItem(deed);
                case ACT_NOTIFY: return makeCase(deed);
                default: return BAD;
            }
        }

        // ---- THE LOG and BATCHES

        private void logDeed(long[] deeds, int at, Bytes text) {
            int act = (int) deeds[at];
            log.putNumber(act);
            for (int k = 1; k <= ARGUMENTS[act]; k++) {
                log.putNumber(deeds[at + k]);
            }
            if (act == ACT_CLAUSES) {
                log.putNumber(text.size);
                for (int i = 0; i < text.size; i++) {
                    log.putNumber(text.byteAt(i));
                }
            }
        }

        private int holdFact(long[] deed) {
            if (heldCount >= MOST_HELD) {
                return FULL;
            }
            System.arraycopy(deed, 0, held, heldCount * DEED, DEED);
            heldCount++;
            return HELD;
        }

        private int finishBatch(int act, int answer) {
            log.putNumber(ACT_BATCH);
            for (int i = 0; i < heldCount; i++) {
                logDeed(held, i * DEED, log);
            }
            log.putNumber(act);
            underWay = false;
            heldCount = 0;
            tries++;
            return answer;
        }

        private void forgetBehind(int moment) {
            for (int i = 0; i < caseCount; i++) {
                Case at = cases[i];
                for (int step = 0; step < MOST_FACTS && at.facts != null && at.facts.moment > moment; step++) {
                    Entry last = at.facts;
                    at.facts = last.before;
                    at.size--;
                    stock.putBack(last);
                }
            }
        }

        // ---- what is told and made

        private int makePerson() {
            if (persons >= MOST_PERSONS) {
                return FULL;
            }
            persons++;
            return persons - 1;
        }

        private int tellRank(long[] deed) {
            if (deed[1] < 0 || deed[1] >= INSURERS || deed[2] < 0 || deed[2] > 9) {
                return BAD;
            }
            if (isToldOut(ACT_RANK)) {
                return FULL;
            }
            tellings[ACT_RANK]++;
            ranks = stock.drawEntry(ACT_RANK, (int) deed[1], now + 1, deed[2], null, ranks);
            return 1;
        }

        private boolean isToldOut(int act) {
            return tellings[act] >= MOST_TOLD[act];
        }

        private int makePolicy(long[] deed) {
            boolean kindAndPerson = deed[1] >= 0 && deed[1] <= BUNDLE && deed[2] >= 0 && deed[2] < persons;
            if (!kindAndPerson || !isDay(deed[3]) || !isDay(deed[4]) || deed[4] < deed[3]) {
                return BAD;
            }
            if (policyCount >= MOST_POLICIES) {
                return FULL;
            }
            policies[policyCount] = stock.drawPolicy(policyCount, (int) deed[1], (int) deed[3], (int) deed[4]);
            policyCount++;
            return policyCount - 1;
        }

        private int tellBundle(long[] deed) {
            Policy bundle = policyAt(deed[1]);
            Policy part = policyAt(deed[3]);
            boolean places = bundle != null && bundle.kind == BUNDLE && deed[2] >= 0 && deed[2] < PLACES;
            if (!places || part == null && deed[3] != NONE) {
                return BAD;
            }
            if (part != null && standsWithin(bundle, part)) {
                return STATE;
            }
            return tellPolicy(ACT_BUNDLE, bundle, (int) deed[2], deed[3], null);
        }

        private int tellPolicy(int act, Policy policy, int which, long value, Node clauses) {
            if (isToldOut(act)) {
                return FULL;
            }
            tellings[act]++;
            policy.told = stock.drawEntry(act, which, now + 1, value, clauses, policy.told);
            return 1;
        }

        /** Goes through all that is in the outer one, itself too, and what is in that. */
        private boolean standsWithin(Policy inner, Policy outer) {
            int waiting = 1;
            queue[0] = outer.number;
            for (int done = 0; done < waiting && done < MOST_POLICIES; done++) {
                Policy at = policies[queue[done]];
                if (at == inner) {
                    return true;
                }
                for (int place = 0; place < PLACES && at.kind == BUNDLE; place++) {
                    Entry told = Entry.known(at.told, ACT_BUNDLE, place, now);
                    Policy part = told == null ? null : policyAt(told.value);
                    boolean waits = part == null;
                    for (int k = 0; k < waiting && !waits; k++) {
                        waits = queue[k] == part.number;
                    }
                    if (!waits && waiting < MOST_POLICIES) {
                        queue[waiting] = part.number;
                        waiting++;
                    }
                }
            }
            return false;
        }

        private int tellPeriod(long[] deed) {
            Policy policy = policyAt(deed[1]);
            int year = (int) deed[2];
            if (policy == null || policy.kind == BUNDLE || !policy.hasYear(year) || !isMoney(deed[3])) {
                return BAD;
            }
            return tellPolicy(ACT_PERIOD, policy, year, deed[3], null);
        }

        private int tellClauses(long[] deed, Bytes text) {
            Policy policy = policyAt(deed[1]);
            if (policy == null || policy.kind == BUNDLE || text.size > MOST_TEXT) {
                return BAD;
            }
            if (isToldOut(ACT_CLAUSES)) {
                return FULL;
            }
            Node clauses = reader.read(text);
            if (reader.fault != NONE) {
                return -10 - reader.fault;
            }
            tellPolicy(ACT_CLAUSES, policy, 0, 0, clauses);
            return reader.clauses;
        }

        private int tellRule(long[] deed) {
            Policy policy = policyAt(deed[1]);
            if (policy == null || policy.kind == BUNDLE || deed[2] < 0 || deed[2] > 2) {
                return BAD;
            }
            return tellPolicy(ACT_RULE, policy, 0, deed[2], null);
        }

        private int makeLoss(long[] deed) {
            if (deed[1] < FIRE || deed[1] > THIRD || !isDay(deed[2])) {
                return BAD;
            }
            return addLoss((int) deed[1], (int) deed[2], null, 0);
        }

        private int makePart(long[] deed) {
            Loss whole = lossAt(deed[1]);
            if (whole == null || deed[2] < 1 || deed[2] > 100) {
                return BAD;
            }
            if (whole.partsToBase() >= MOST_PARTS) {
                return STATE;
            }
            return addLoss(PART, whole.day, whole, (int) deed[2]);
        }

        private int addLoss(int kind, int day, Loss whole, int hundredths) {
            if (lossCount >= MOST_LOSSES) {
                return FULL;
            }
            losses[lossCount] = stock.drawLoss(lossCount, kind, day, whole, hundredths);
            lossCount++;
            return lossCount - 1;
        }

        private int makeItem(long[] deed) {
            Loss loss = lossAt(deed[1]);
            boolean sorted = deed[2] >= 0 && deed[2] <= 9;
            if (loss == null || loss.kind == PART || !sorted || !isMoney(deed[3]) || !isMoney(deed[4])) {
                return BAD;
            }
            if (loss.notified) {
                return STATE;
            }
            int at = loss.items;
            if (at >= MOST_ITEMS) {
                return FULL;
            }
            loss.sorts[at] = (int) deed[2];
            loss.money[2 * at] = deed[3];
            loss.money[2 * at + 1] = deed[4];
            loss.items++;
            return loss.items;
        }

        private int makeCase(long[] deed) {
            Policy policy = policyAt(deed[1]);
            Loss loss = lossAt(deed[3]);
            if (policy == null || loss == null || !isDay(deed[4])) {
                return BAD;
            }
            boolean placed = policy.kind == BUNDLE ? deed[2] >= 0 && deed[2] < PLACES : deed[2] == NONE;
            if (!placed) {
                return BAD;
            }
            int day = (int) deed[4];
            if (day < loss.day || caseCount > 0 && day < cases[caseCount - 1].notice) {
                return DAY;
            }
            if (caseCount >= MOST_CASES) {
                return FULL;
            }
            loss.base().notified = true;
            cases[caseCount] = stock.drawCase(policy, (int) deed[2], loss, day, now + 1);
            caseCount++;
            return caseCount - 1;
        }

        // ---- FACTS

        private int doFact(long[] deeds, int at) {
            int act = (int) deeds[at];
            Case theCase = caseAt(deeds[at + 1]);
            if (theCase == null || !isDay(deeds[at + 2]) || !isAsTold(theCase, deeds, at)) {
                return BAD;
            }
            if (theCase.isOpen(now, LAST_DAY) == (act == ACT_REOPEN)) {
                return STATE;
            }
            int day = (int) deeds[at + 2];
            if (day < theCase.earliestDay()) {
                return DAY;
            }
            if (act == ACT_REOPEN && isLate(theCase, day, (int) deeds[at + 3])) {
                return LATE;
            }
            long cents = centsIn(deeds, at);
            long interest = 0;
            if (act == ACT_PAY) {
                if (working.met >= MOST_FINDINGS) {
                    return FULL;
                }
                working.settle(this, theCase, day, now);
                interest = interestIn(theCase, cents);
                if (isTooMuch(theCase, cents, interest)) {
                    return MUCH;
                }
            }
            if (act == ACT_RECOURSE
                    && theCase.sumOf(act, now, LAST_DAY) + cents > theCase.paidOfWorth(now)) {
                return MUCH;
            }
            if (theCase.size >= MOST_FACTS) {
                return FULL;
            }
            now++;
            Entry fact = stock.drawEntry(act, (int) deeds[at + 3], now, cents, null, theCase.facts);
            fact.day = day;
            fact.what = (int) deeds[at + 4];
            fact.from = (int) deeds[at + 6];
            fact.interest = interest;
            theCase.facts = fact;
            theCase.size++;
            return 1;
        }

        private static long centsIn(long[] deeds, int at) {
            int place = CENTS_AT[(int) deeds[at]];
            return place == 0 ? 0 : deeds[at + place];
        }

        /** Whether the numbers of a FACT behind its day are such as it may have. */
        private boolean isAsTold(Case theCase, long[] deeds, int at) {
            long cents = centsIn(deeds, at);
            if (!isMoney(cents)) {
                return false;
            }
            long which = deeds[at + 3];
            switch ((int) deeds[at]) {
                case ACT_RESERVE:
                case ACT_REOPEN:
                    return which >= 0 && which <= 2;
                case ACT_PAY:
                    return cents > 0;
                case ACT_CORRECT:
                    return which >= 0 && which < theCase.loss.base().items
                            && (deeds[at + 4] == 0 || deeds[at + 4] == 1) && isDay(deeds[at + 6]);
                case ACT_SHARE:
                    return which >= 1 && which < INSURERS;
                default:
                    return true;
            }
        }

        private boolean isLate(Case theCase, int day, int ground) {
            Entry closed = theCase.lastFact(ACT_CLOSE, now, LAST_DAY);
            int behind = closed == null ? 0 : day - closed.day;
            return ground == 0 && behind > 30 || ground == 1 && behind > 365;
        }

        /** What of these cents is PAID of INTEREST, by what was just settled. */
        private long interestIn(Case theCase, long cents) {
            long open = working.view.centsOf(ROW_INTEREST) - theCase.paidOfInterest(now);
            return Math.min(cents, Math.max(open, 0));
        }

        private boolean isTooMuch(Case theCase, long cents, long interest) {
            View view = working.view;
            if (view.finding != 0 || cents > view.total()) {
                return true;
            }
            Node limit = Node.lastOf(working.clauses, Node.YEAR);
            if (limit == null) {
                return false;
            }
            long used = usedOf(working.cover, theCase.loss.day / DAYS_OF_YEAR, now);
            return cents - interest > limit.number - used;
        }

        // ---- what is asked of all cases

        /** What a case is notified to as known at a moment; null: NOTHING. */
        Policy coverOf(Case theCase, int moment) {
            Policy cover = theCase.policy;
            int place = theCase.place;
            for (int step = 0; step < MOST_POLICIES && cover != null && cover.kind == BUNDLE; step++) {
                Entry told = Entry.known(cover.told, ACT_BUNDLE, place, moment);
                cover = told == null ? null : policyAt(told.value);
                place = 0;
            }
            return cover == null || cover.kind == BUNDLE ? null : cover;
        }

        int rankOf(int insurer, int moment) {
            Entry told = Entry.known(ranks, ACT_RANK, insurer, moment);
            return told == null ? insurer : (int) told.value;
        }

        boolean isOfCover(Case theCase, Policy cover, int year, int moment) {
            return theCase.moment <= moment && theCase.loss.day / DAYS_OF_YEAR == year
                    && coverOf(theCase, moment) == cover;
        }

        long usedOf(Policy cover, int year, int moment) {
            long used = 0;
            for (int i = 0; i < caseCount; i++) {
                if (isOfCover(cases[i], cover, year, moment)) {
                    used += cases[i].paidOfWorth(moment) - cases[i].sumOf(ACT_RECOURSE, moment, LAST_DAY);
                }
            }
            return used;
        }

        long reservedOf(int kind, int year, int moment) {
            long sum = 0;
            for (int i = 0; i < caseCount; i++) {
                Case at = cases[i];
                boolean counts = at.moment <= moment && at.loss.day / DAYS_OF_YEAR == year;
                Entry last = Entry.known(at.facts, ACT_RESERVE, kind, moment);
                if (counts && last != null && at.isOpen(moment, LAST_DAY)) {
                    sum += last.value;
                }
            }
            return sum;
        }

        /** What was PAID in these rows of RUNS, in the columns up to that one. */
        long paidWithin(int by, int firstRow, int lastRow, int lastColumn, int moment) {
            long sum = 0;
            for (int i = 0; i < caseCount; i++) {
                Case at = cases[i];
                int row = (by == 0 ? at.loss.day : at.notice) / DAYS_OF_YEAR;
                if (row < firstRow || row > lastRow || lastColumn < 0) {
                    continue;
                }
                long lastDay = (long) (row + lastColumn + 1) * DAYS_OF_YEAR - 1;
                sum += at.sumOf(ACT_PAY, moment, (int) Math.min(lastDay, LAST_DAY));
            }
            return sum;
        }
    }

    /** A clause, or a piece of its COND; pieces of one whole stand one behind the other. */
    private static final class Node {
        static final int IN = 0, OUT = 1, ITEM = 2, LOSS = 3, YEAR = 4, OWN = 5, WAIT = 6, AVERAGE = 7, INTEREST = 8;
        static final int BY = 9, NOTICE = 10, UNLESS = 11, OR = 12, AND = 13, NOT = 14, AMOUNT = 15, ITEMS = 16;
        static final int LATENESS = 17, SORT = 18, IS = 19, FIRST_KIND = 20, ANY = 25, WORDS = 26;
        /** Two words that make one sort of clause. */
        static final int OWN_LOSS = 32, OWN_YEAR = 33;

        static final int WIDTH = 8;
        /** One text, as long as it is: its words stand eight letters apart. */
        static final String NAMES =
                "in      out     item    loss    year    own     wait    average interestby      notice  unless  or      and     not     amount  items   late    sort    is      fire    water   theft   storm   third   any     ";

        int op;
        /** Its NUMBER, or the word of a KIND. */
        int number;
        Node first;
        Node next;
        /** The one that was made behind it for the same text; the next one that no text has. */
        Node made;

        static Node lastOf(Node clauses, int op) {
            Node last = null;
            for (Node clause = clauses; clause != null; clause = clause.next) {
                if (clause.op == op) {
                    last = clause;
                }
            }
            return last;
        }

        static void writeClause(Node clause, Bytes out) {
            switch (clause.op) {
                case OWN_LOSS:
                    writeNumbered(OWN, LOSS, clause.number, out);
                    break;
                case OWN_YEAR:
                    writeNumbered(OWN, YEAR, clause.number, out);
                    break;
                case AVERAGE:
                    writeWord(AVERAGE, out);
                    break;
                case BY:
                case IN:
                case OUT:
                    writeWord(clause.op, out);
                    out.put(' ');
                    writeWord(clause.number, out);
                    break;
                default:
                    writeNumbered(NONE, clause.op, clause.number, out);
            }
            if (clause.first != null) {
                out.put(' ');
                writeWord(UNLESS, out);
                out.put(' ');
                writeCondition(clause.first, out, 0);
            }
            out.put(';');
            out.put('\n');
        }

        private static void writeWord(int word, Bytes out) {
            out.putWord(NAMES, word * WIDTH, WIDTH);
        }

        private static void writeNumbered(int ahead, int word, int number, Bytes out) {
            if (ahead != NONE) {
                writeWord(ahead, out);
                out.put(' ');
            }
            writeWord(word, out);
            out.put(' ');
            out.putDecimal(number);
        }

        private static void writeCondition(Node node, Bytes out, int depth) {
            if (depth > DEEPEST) {
                return;
            }
            if (node.first == null) {
                writeTest(node, out);
                return;
            }
            for (Node piece = node.first; piece != null; piece = piece.next) {
                if (node.op == NOT || piece != node.first) {
                    writeWord(node.op, out);
                    out.put(' ');
                }
                boolean brackets = piece.op == OR && node.op != OR || piece.op == AND && node.op == NOT;
                if (brackets) {
                    out.put('(');
                }
                writeCondition(piece, out, depth + 1);
                if (brackets) {
                    out.put(')');
                }
                if (piece.next != null) {
                    out.put(' ');
                }
            }
        }

        private static void writeTest(Node node, Bytes out) {
            if (node.op != IS) {
                writeNumbered(NONE, node.op, node.number, out);
                return;
            }
            writeWord(IS, out);
            out.put(' ');
            writeWord(node.number, out);
        }
    }

    /** Reads a text of CLAUSES: first its TOKENS, then what they say. */
    private static final class Reader {
        /** TOKENS beside the words, which have their own numbers. */
        private static final int NUMBER = 26, OPEN = 27, SHUT = 28, STOP = 29, END_OF_TEXT = 30, UNKNOWN = 31;
        private static final int MOST_DIGITS = 9;

        final int[] tokens = new int[MOST_TEXT + 1];
        final int[] numbers = new int[MOST_TEXT + 1];
        final int[] starts = new int[MOST_TEXT + 1];
        int at;
        int clauses;
        int fault;
        /** Nodes that no text has, and those of the text that is read. */
        private Node idle;
        private Node firstMade;
        private Node lastMade;

        /** The first clause is the first node that is made: it has all others of its text behind it. */
        Node read(Bytes text) {
            scan(text);
            at = 0;
            clauses = 0;
            fault = NONE;
            firstMade = null;
            lastMade = null;
            Node last = null;
            for (int n = 0; n <= MOST_CLAUSES && fault == NONE && tokens[at] != END_OF_TEXT; n++) {
                Node clause = n < MOST_CLAUSES ? readClause() : fail();
                if (last != null) {
                    last.next = clause;
                }
                last = clause;
                clauses++;
            }
            if (fault != NONE) {
                putBack(firstMade);
                return null;
            }
            return firstMade;
        }

        private Node makeNode(int op, int number, Node first) {
            Node node = idle == null ? new Node() : idle;
            idle = node.made;
            node.made = null;
            node.op = op;
            node.number = number;
            node.first = first;
            node.next = null;
            if (lastMade == null) {
                firstMade = node;
            } else {
                lastMade.made = node;
            }
            lastMade = node;
            return node;
        }

        /** Takes back all nodes of a text. */
        void putBack(Node first) {
            Node behind;
            for (Node node = first; node != null; node = behind) {
                behind = node.made;
                node.made = idle;
                idle = node;
            }
        }

        /** A tenth digit begins a NUMBER of its own, which never goes on behind another: so the FAULT is there. */
        private void scan(Bytes text) {
            int size = 0;
            int i = 0;
            for (int step = 0; step < MOST_TEXT && i < text.size; step++) {
                int b = text.byteAt(i);
                int until = i + 1;
                int number = 0;
                int token = b == '(' ? OPEN : b == ')' ? SHUT : b == ';' ? STOP : UNKNOWN;
                if (b >= 'a' && b <= 'z') {
                    until = endOfRun(text, i, 'a', 'z', MOST_TEXT);
                    token = wordIn(text, i, until);
                } else if (b >= '0' && b <= '9') {
                    until = endOfRun(text, i, '0', '9', MOST_DIGITS);
                    token = NUMBER;
                    for (int k = i; k < until; k++) {
                        number = 10 * number + text.byteAt(k) - '0';
                    }
                }
                if (b != ' ' && b != '\n') {
                    tokens[size] = token;
                    numbers[size] = number;
                    starts[size] = i;
                    size++;
                }
                i = until;
            }
            tokens[size] = END_OF_TEXT;
            numbers[size] = 0;
            starts[size] = text.size;
        }

        private static int endOfRun(Bytes text, int from, char lowest, char highest, int most) {
            int until = from;
            for (int k = 0; k < most && text.byteAt(until) >= lowest && text.byteAt(until) <= highest; k++) {
                until++;
            }
            return until;
        }

        private static int wordIn(Bytes text, int from, int until) {
            for (int word = 0; word < Node.WORDS && until - from <= Node.WIDTH; word++) {
                boolean same = true;
                for (int k = 0; k < Node.WIDTH && same; k++) {
                    int letter = from + k < until ? text.byteAt(from + k) : ' ';
                    same = letter == Node.NAMES.charAt(word * Node.WIDTH + k);
                }
                if (same) {
                    return word;
                }
            }
            return UNKNOWN;
        }

        /** The FAULT is at the first TOKEN that does not go on. */
        private Node fail() {
            if (fault == NONE) {
                fault = starts[at];
            }
            return null;
        }

        /** Goes on behind a TOKEN of these; else there is a FAULT, if there was none yet. */
        private boolean take(int lowest, int highest) {
            if (fault != NONE) {
                return false;
            }
            if (tokens[at] < lowest || tokens[at] > highest) {
                fault = starts[at];
                return false;
            }
            at++;
            return true;
        }

        private Node readClause() {
            int word = tokens[at];
            Node clause = makeNode(word, 0, null);
            int number = 0;
            switch (word) {
                case Node.IN:
                case Node.OUT:
                    at++;
                    number = tokens[at];
                    if (take(Node.FIRST_KIND, Node.ANY) && tokens[at] == Node.UNLESS) {
                        at++;
                        clause.first = readOr(0);
                    }
                    break;
                case Node.ITEM:
                case Node.LOSS:
                case Node.YEAR:
                case Node.WAIT:
                case Node.INTEREST:
                    at++;
                    number = numbers[at];
                    take(NUMBER, NUMBER);
                    break;
                case Node.OWN:
                    at++;
                    word = tokens[at] == Node.LOSS ? Node.OWN_LOSS : Node.OWN_YEAR;
                    take(Node.LOSS, Node.YEAR);
                    number = numbers[at];
                    take(NUMBER, NUMBER);
                    break;
                case Node.AVERAGE:
                    at++;
                    break;
                case Node.BY:
                    at++;
                    number = tokens[at] == Node.LOSS ? Node.LOSS : Node.NOTICE;
                    take(number, number);
                    break;
                default:
                    return fail();
            }
            take(STOP, STOP);
            clause.op = word;
            clause.number = number;
            return clause;
        }

        private Node readOr(int open) {
            Node first = readAnd(open);
            if (first == null || tokens[at] != Node.OR) {
                return first;
            }
            Node last = first;
            for (int n = 0; n < MOST_TEXT && last != null && tokens[at] == Node.OR; n++) {
                at++;
                last.next = readAnd(open);
                last = last.next;
            }
            return makeNode(Node.OR, 0, first);
        }

        private Node readAnd(int open) {
            Node first = readNot(open);
            if (first == null || tokens[at] != Node.AND) {
                return first;
            }
            Node last = first;
            for (int n = 0; n < MOST_TEXT && last != null && tokens[at] == Node.AND; n++) {
                at++;
                last.next = readNot(open);
                last = last.next;
            }
            return makeNode(Node.AND, 0, first);
        }

        /** open: how many not and ( are open already. */
        private Node readNot(int open) {
            int word = tokens[at];
            if ((word == Node.NOT || word == OPEN) && open >= MOST_OPEN) {
                return fail();
            }
            if (word == Node.NOT) {
                at++;
                Node denied = readNot(open + 1);
                return denied == null ? null : makeNode(word, 0, denied);
            }
            if (word == OPEN) {
                at++;
                Node within = readOr(open + 1);
                return take(SHUT, SHUT) ? within : null;
            }
            if (!take(Node.AMOUNT, Node.IS)) {
                return null;
            }
            int number = word == Node.IS ? tokens[at] : numbers[at];
            boolean ends = word == Node.IS ? take(Node.FIRST_KIND, Node.ANY) : take(NUMBER, NUMBER);
            return ends ? makeNode(word, number, null) : null;
        }
    }

    /** What came of a working: its rows, its TRACE, its FINDING. */
    private static final class View {
        final int[] codes = new int[MOST_ROWS];
        final int[] arguments = new int[MOST_ROWS];
        final long[] cents = new long[MOST_ROWS];
        final int[] marks = new int[MOST_TRACE];
        int rows;
        int traced;
        int finding;
        /** There are no more rows: by a FINDING, or as it is OUT or WAITs. */
        boolean over;

        void clear() {
            rows = 0;
            traced = 0;
            finding = 0;
            over = false;
        }

        void addRow(int code, int argument, long amount) {
            if (rows >= MOST_ROWS) {
                return;
            }
            codes[rows] = code;
            arguments[rows] = argument;
            cents[rows] = amount;
            rows++;
        }

        void fail(int found) {
            finding = found;
            over = true;
        }

        long total() {
            long sum = 0;
            for (int i = 0; i < rows; i++) {
                sum += cents[i];
            }
            return sum;
        }

        long centsOf(int code) {
            for (int i = 0; i < rows; i++) {
                if (codes[i] == code) {
                    return cents[i];
                }
            }
            return 0;
        }
    }

    /** Works out what is owed of a case; the same object again and again. */
    private static final class Working {
        private static final int COVERS = 0, WAITS = 1, AVERAGES = 2, SELF = 3, WORTH = 4, IS = 5;
        private static final int COVER = 1, PROPERTY = 2, DWELLING = 3, CAR = 6, LOSS = 9, DAMAGE = 10;
        private static final int[] OWNER_OF_POLICY = {3, 4, 6, 8, 5, 7};
        private static final int[] OWNER_OF_LOSS = {10, 10, 11, 12, 13, 14};
        private static final int[] PARENT = {0, 0, 1, 2, 3, 2, 1, 6, 1, 9, 9, 10, 10, 9, 9};
        /** Which acts an owner has a body of its own for, a bit for each. */
        private static final int[] BODIES = {6, 9, 5, 1, 7, 7, 9, 11, 1, 48, 16, 16, 32, 0, 48};
        private static final int MOST_PARENTS = 4, MOST_ASKED = 20;
        private static final int SORT_OF_WATER = 3;

        /** Works the others that are laid; null in that one. */
        final Working other;
        /** How many FINDINGS were met. */
        int met;
        View view = new View();
        private Book book;
        private Case theCase;
        private Loss loss;
        Policy cover;
        Node clauses;
        private int day;
        private int moment;
        private long sum;
        private long s;
        private long worth;
        private final long[] money = new long[2 * MOST_ITEMS];
        private final int[] since = new int[2 * MOST_ITEMS];
        private final int[] order = new int[MOST_CASES];
        private final int[] keys = new int[MOST_CASES];
        private final long[] alone = new long[INSURERS];
        private final long[] shares = new long[INSURERS];
        private final int[] turns = new int[INSURERS];

        Working(Working other) {
            this.other = other;
        }

        void settle(Book from, Case asked, int onDay, int asOf) {
            work(from, asked, onDay, asOf);
            if (!view.over) {
                long own = numberOf(Node.OWN_YEAR, NONE);
                long rest = numberOf(Node.YEAR, NONE);
                int laid = own == NONE && rest == NONE ? 0 : putInOrder();
                own = Math.max(own, 0);
                rest = rest == NONE ? GREATEST : rest;
                long given = 0;
                long beyond = 0;
                for (int i = 0; i < laid && other != null; i++) {
                    Case next = book.cases[order[i]];
                    long brought = s;
                    if (next != theCase) {
                        other.work(book, next, day, moment);
                        met += other.view.finding == 0 ? 0 : 1;
                        brought = other.view.over ? 0 : other.s;
                    }
                    long gives = Math.min(brought, own);
                    long goesBeyond = Math.max(brought - gives - rest, 0);
                    own -= gives;
                    rest -= brought - gives - goesBeyond;
                    given = next == theCase ? gives : given;
                    beyond = next == theCase ? goesBeyond : beyond;
                }
                addRow(ROW_OWN_YEAR, 0, -given);
                addRow(ROW_YEAR, 0, -beyond);
                addRow(ROW_SALVAGE, 0, -Math.min(theCase.sumOf(ACT_SALVAGE, moment, day), s));
                interestRow();
            }
            if (!view.over) {
                addRow(ROW_PAID, 0, -theCase.sumOf(ACT_PAY, moment, day));
            }
            met += view.finding == 0 ? 0 : 1;
        }

        /** The rows that a case has by itself: up to that of SHARED. */
        private void work(Book from, Case asked, int onDay, int asOf) {
            book = from;
            theCase = asked;
            loss = asked.loss;
            day = onDay;
            moment = asOf;
            s = 0;
            view.clear();
            findCover();
            if (view.over) {
                return;
            }
            takeCorrections();
            worth = ask(WORTH, OWNER_OF_LOSS[loss.kind], loss, numberOf(Node.ITEM, MOST_MONEY), 0);
            addRow(ROW_WORTH, 0, worth);
            outRow();
            if (!view.over) {
                waitRow();
            }
            if (!view.over) {
                averageRow();
            }
            if (!view.over) {
                int self = (int) ask(SELF, OWNER_OF_POLICY[cover.kind], loss, 0, 0);
                addRow(ROW_SELF, self, -(s * self / 100));
                addRow(ROW_OWN, 0, -Math.min(numberOf(Node.OWN_LOSS, 0), s));
                addRow(ROW_LIMIT, 0, -Math.max(s - numberOf(Node.LOSS, MOST_MONEY * MOST_ITEMS), 0));
                sharedRow(takeAlone());
            }
        }

        // ---- what rows need

        private long numberOf(int op, long otherwise) {
            Node last = Node.lastOf(clauses, op);
            return last == null ? otherwise : last.number;
        }

        private void addRow(int code, int argument, long cents) {
            s += cents;
            if (cents != 0 || code <= ROW_WAIT) {
                view.addRow(code, argument, cents);
            }
        }

        private void endWith(int code, int argument) {
            view.addRow(code, argument, -s);
            view.over = true;
            s = 0;
        }

        private long times(long a, long b) {
            if (b != 0 && a > GREATEST / b) {
                view.finding = GREAT;
                view.over = true;
                return 0;
            }
            return a * b;
        }

        private void findCover() {
            cover = book.coverOf(theCase, moment);
            if (cover == null) {
                view.fail(NOTHING);
                return;
            }
            int year = loss.day / DAYS_OF_YEAR;
            if (!cover.hasYear(year)) {
                view.fail(OUTSIDE);
                return;
            }
            Entry told = Entry.known(cover.told, ACT_PERIOD, year, moment);
            if (told == null) {
                view.fail(NOTHING);
                return;
            }
            sum = told.value;
            clauses = cover.clausesAt(moment);
        }

        /** AMOUNTS and VALUES as they are in this case on the day that is asked for. */
        private void takeCorrections() {
            Loss base = loss.base();
            for (int k = 0; k < money.length; k++) {
                money[k] = base.money[k];
                since[k] = NONE;
            }
            for (Entry fact = theCase.facts; fact != null; fact = fact.before) {
                boolean counts = fact.counts(ACT_CORRECT, moment, day) && fact.from <= day;
                int k = counts ? 2 * fact.which + fact.what : NONE;
                if (k >= 0 && k < money.length && fact.from > since[k]) {
                    money[k] = fact.value;
                    since[k] = fact.from;
                }
            }
        }

        private long sumOfMoney(int what) {
            long total = 0;
            for (int k = what; k < money.length; k += 2) {
                total += money[k];
            }
            return total;
        }

        // ---- BODIES

        /** The body of an act that an owner has, or its parent; number: the most for an ITEM, or a KIND. */
        private long ask(int act, int asker, Loss asked, long number, int depth) {
            if (depth > MOST_ASKED || asked == null) {
                return 0;
            }
            int owner = asker;
            for (int step = 0; step < MOST_PARENTS && (BODIES[owner] >> act & 1) == 0; step++) {
                owner = PARENT[owner];
            }
            if (view.traced < MOST_TRACE) {
                view.marks[view.traced] = 10 * owner + act;
                view.traced++;
            }
            int deeper = depth + 1;
            int ownerOfWhole = asked.whole == null ? LOSS : OWNER_OF_LOSS[asked.whole.kind];
            switch (10 * owner + act) {
                case 20: return lossIs(FIRE, deeper) ? 1 : ask(COVERS, COVER, asked, 0, deeper);
                case 30: return lossIs(WATER, deeper) || lossIs(STORM, deeper) ? 1
                        : ask(COVERS, PROPERTY, asked, 0, deeper);
                case 40: return lossIs(THEFT, deeper) ? 1 : ask(COVERS, DWELLING, asked, 0, deeper);
                case 50: return lossIs(STORM, deeper) ? 1 : 0;
                case 60: return lossIs(FIRE, deeper) || lossIs(THEFT, deeper) || lossIs(THIRD, deeper) ? 1
                        : ask(COVERS, COVER, asked, 0, deeper);
                case 70: return lossIs(THIRD, deeper) ? 0 : lossIs(WATER, deeper) ? 1
                        : ask(COVERS, CAR, asked, 0, deeper);
                case 80:
                    if (asked.kind != THIRD) {
                        view.finding = NOT_THAT_KIND;
                        view.over = true;
                    }
                    return asked.kind == THIRD && asked.items > 0 ? 1 : 0;
                case 41: return lossIs(THEFT, deeper) ? 3 : 0;
                case 51: return 14;
                case 71: return lossIs(WATER, deeper) ? 2 : 0;
                case 22: return 1;
                case 42: return lossIs(THEFT, deeper) ? 0 : ask(AVERAGES, PROPERTY, asked, 0, deeper);
                case 63: return lossIs(THEFT, deeper) ? 10 : ask(SELF, COVER, asked, 0, deeper);
                case 73: return 5 + ask(SELF, CAR, asked, 0, deeper);
                case 94:
                case 104: {
                    long total = 0;
                    for (int k = 0; k < money.length; k += 2) {
                        long least = money[k] < number ? money[k] : number;
                        total += owner == DAMAGE && money[k + 1] < least ? money[k + 1] : least;
                    }
                    return total;
                }
                case 114: return ask(WORTH, DAMAGE, asked, number, deeper) / 100 * 100;
                case 144: return ask(WORTH, ownerOfWhole, asked.whole, number, deeper) * asked.hundredths / 100;
                case 95: return asked.kind == number ? 1 : 0;
                case 125: {
                    boolean wet = false;
                    for (int i = 0; i < asked.items && number == WATER; i++) {
                        wet = wet || asked.sorts[i] == SORT_OF_WATER;
                    }
                    return wet ? 1 : ask(IS, LOSS, asked, number, deeper);
                }
                case 145: return ask(IS, ownerOfWhole, asked.whole, number, deeper);
                default: return 0;
            }
        }

        private boolean lossIs(int kind, int depth) {
            return ask(IS, OWNER_OF_LOSS[loss.kind], loss, kind, depth) == 1;
        }

        // ---- rows

        private void outRow() {
            if (loss.day < cover.first || loss.day > cover.last) {
                endWith(ROW_OUT, -2);
                return;
            }
            boolean covered = ask(COVERS, OWNER_OF_POLICY[cover.kind], loss, 0, 0) == 1;
            if (view.over) {
                return;
            }
            int last = NONE;
            int number = 0;
            for (Node clause = clauses; clause != null; clause = clause.next) {
                boolean names = (clause.op == Node.IN || clause.op == Node.OUT)
                        && (clause.number == Node.ANY || lossIs(clause.number - Node.FIRST_KIND, 0));
                if (names && (clause.first == null || !holds(clause.first, 0))) {
                    covered = clause.op == Node.IN;
                    last = number;
                }
                number++;
            }
            if (!covered) {
                endWith(ROW_OUT, last);
            }
        }

        private boolean holds(Node node, int depth) {
            if (node == null || depth > DEEPEST) {
                return false;
            }
            switch (node.op) {
                case Node.OR:
                case Node.AND:
                    for (Node piece = node.first; piece != null; piece = piece.next) {
                        if (holds(piece, depth + 1) == (node.op == Node.OR)) {
                            return node.op == Node.OR;
                        }
                    }
                    return node.op == Node.AND;
                case Node.NOT:
                    return !holds(node.first, depth + 1);
                case Node.AMOUNT:
                    return sumOfMoney(0) > node.number;
                case Node.ITEMS:
                    return loss.base().items > node.number;
                case Node.LATENESS:
                    return theCase.notice - loss.day > node.number;
                case Node.SORT:
                    return hasSort(loss.base(), node.number);
                default:
                    return node.number == Node.ANY || lossIs(node.number - Node.FIRST_KIND, 0);
            }
        }

        private static boolean hasSort(Loss base, int sort) {
            for (int i = 0; i < base.items; i++) {
                if (base.sorts[i] == sort) {
                    return true;
                }
            }
            return false;
        }

        private void waitRow() {
            long waits = ask(WAITS, OWNER_OF_POLICY[cover.kind], loss, 0, 0);
            int days = (int) Math.max(waits, numberOf(Node.WAIT, 0));
            if (loss.day < cover.first + days) {
                endWith(ROW_WAIT, days);
            }
        }

        private void averageRow() {
            boolean averages = ask(AVERAGES, OWNER_OF_POLICY[cover.kind], loss, 0, 0) == 1;
            if (!averages && Node.lastOf(clauses, Node.AVERAGE) == null) {
                return;
            }
            long product = times(s, sum);
            long values = sumOfMoney(1);
            if (!view.over && values == 0) {
                view.fail(NOUGHT);
            }
            if (!view.over) {
                addRow(ROW_AVERAGE, 0, -Math.max(s - product / values, 0));
            }
        }

        private void interestRow() {
            long rate = numberOf(Node.INTEREST, 0);
            long product = times(rate == 0 ? 0 : centsByDays(), rate);
            if (!view.over) {
                addRow(ROW_INTEREST, 0, product / 3650000);
            }
        }

        /** What of s was not PAID, summed over the days; it stays the same from one payment to the next. */
        private long centsByDays() {
            long total = 0;
            long paid = theCase.paidOfWorth(moment);
            int until = day;
            for (Entry fact = theCase.facts; fact != null; fact = fact.before) {
                if (fact.counts(ACT_PAY, moment, LAST_DAY)) {
                    int from = Math.min(fact.day + 1, until);
                    total += (until - from) * Math.max(s - paid, 0);
                    until = from;
                    paid -= fact.value - fact.interest;
                }
            }
            return total + (until - theCase.notice) * Math.max(s - paid, 0);
        }

        // ---- cases that are laid

        /** Lays the numbers of the cases of this COVER and YEAR in ORDER: how many they are. */
        private int putInOrder() {
            Node by = Node.lastOf(clauses, Node.BY);
            boolean byLoss = by != null && by.number == Node.LOSS;
            int year = loss.day / DAYS_OF_YEAR;
            int laid = 0;
            for (int i = 0; i < book.caseCount && laid < MOST_CASES; i++) {
                Case next = book.cases[i];
                if (next.notice > day || !book.isOfCover(next, cover, year, moment)) {
                    continue;
                }
                int key = byLoss && next.isOpen(moment, day) ? next.loss.day : NONE;
                int at = laid;
                for (; at > 0 && keys[at - 1] > key; at--) {
                    keys[at] = keys[at - 1];
                    order[at] = order[at - 1];
                }
                keys[at] = key;
                order[at] = i;
                laid++;
            }
            return laid;
        }

        // ---- shares between INSURERS

        private void sharedRow(int others) {
            if (others == 0) {
                return;
            }
            long all = 0;
            for (int k = 0; k <= others; k++) {
                all += alone[turns[k]];
            }
            long whole = Math.min(worth, all);
            Entry rule = Entry.known(cover.told, ACT_RULE, 0, moment);
            int number = rule == null ? 0 : (int) rule.value;
            if (number == 0) {
                shareByAlone(whole, all, others + 1);
            } else if (number == 1) {
                shareByRounds(whole, others + 1);
            } else {
                shareByRanks(whole, others + 1);
            }
            if (!view.over) {
                addRow(ROW_SHARED, others, shares[0] - s);
            }
        }

        /** Puts those who share into their turns, by RANKS: how many others there are. */
        private int takeAlone() {
            Arrays.fill(alone, NONE);
            Arrays.fill(shares, 0);
            alone[0] = s;
            for (Entry fact = theCase.facts; fact != null; fact = fact.before) {
                int insurer = fact.counts(ACT_SHARE, moment, day) ? fact.which : NONE;
                if (insurer > 0 && insurer < INSURERS && alone[insurer] == NONE) {
                    alone[insurer] = fact.value;
                }
            }
            int sharing = 0;
            for (int insurer = 0; insurer < INSURERS; insurer++) {
                if (alone[insurer] == NONE) {
                    continue;
                }
                int at = sharing;
                int rank = book.rankOf(insurer, moment);
                for (; at > 0 && book.rankOf(turns[at - 1], moment) > rank; at--) {
                    turns[at] = turns[at - 1];
                }
                turns[at] = insurer;
                sharing++;
            }
            return sharing - 1;
        }

        private void shareByAlone(long whole, long all, int sharing) {
            if (all == 0) {
                view.fail(NOUGHT);
                return;
            }
            long rest = whole;
            for (int k = 0; k < sharing; k++) {
                int insurer = turns[k];
                shares[insurer] = times(whole, alone[insurer]) / all;
                rest -= shares[insurer];
            }
            for (int round = 0; round < INSURERS && rest > 0 && !view.over; round++) {
                rest = giveCents(rest, sharing);
            }
        }

        /** A cent to each that has less than ALONE, as far as it goes: what is left. */
        private long giveCents(long rest, int sharing) {
            long left = rest;
            for (int k = 0; k < sharing && left > 0; k++) {
                if (shares[turns[k]] < alone[turns[k]]) {
                    shares[turns[k]]++;
                    left--;
                }
            }
            return left;
        }

        /** A round either fills an ALONE or leaves less than a cent for each, so few rounds are enough. */
        private void shareByRounds(long whole, int sharing) {
            long rest = whole;
            for (int round = 0; round < 2 * INSURERS + 2 && rest > 0; round++) {
                int lacking = 0;
                for (int k = 0; k < sharing; k++) {
                    lacking += shares[turns[k]] < alone[turns[k]] ? 1 : 0;
                }
                if (lacking == 0) {
                    return;
                }
                long each = rest / lacking;
                for (int k = 0; k < sharing; k++) {
                    long gets = Math.min(alone[turns[k]] - shares[turns[k]], each);
                    shares[turns[k]] += gets;
                    rest -= gets;
                }
                if (each == 0) {
                    rest = giveCents(rest, sharing);
                }
            }
        }

        private void shareByRanks(long whole, int sharing) {
            long rest = whole;
            for (int k = 0; k < sharing; k++) {
                shares[turns[k]] = Math.min(alone[turns[k]], rest);
                rest -= shares[turns[k]];
            }
        }
    }
}
