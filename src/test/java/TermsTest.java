import java.util.ArrayList;
import java.util.List;

/** "Terms" of the document: the bounds of days, YEARS, MONEY, MOMENTS, and of what an office has. */
public final class TermsTest {
    private static final int NONE = -1, BAD = -2, STATE = -3, DAY = -4, FULL = -7;
    private static final int LOWEST = Integer.MIN_VALUE, HIGHEST = Integer.MAX_VALUE;
    private static final long NO_ANSWER = ClaimsOffice.NO_ANSWER;
    private static final long MOST = 1000000000000L;
    private static final int FIRE = 0, THIRD = 4;
    private static final int CAR = 2, TRANSPORT = 5, BUNDLE = 6;
    private static final Check check = new Check();

    /** A call with one number that a test varies. */
    private interface Call {
        long on(Office office, long number);
    }

    public static void main(String[] args) {
        days();
        years();
        firstAndLastDaysOfYears();
        money();
        quotients();
        numbersOfClauses();
        great();
        sumsAreNotGreat();
        moments();
        known();
        persons();
        insurers();
        policies();
        sums();
        clausesAndRule();
        bundles();
        longBundles();
        losses();
        parts();
        check.done();
    }

    /** A CAR for all days, with a SUM in all YEARS, a LOSS on day 0 with one ITEM of 2 * 10^12, case 0 of it. */
    private static Office wide() {
        Office o = new Office();
        o.person();
        o.policy(CAR, 0, 0, 10949);
        for (int year = 0; year < 30; year++) {
            o.period(0, year, MOST);
        }
        o.loss(FIRE, 0);
        o.item(0, 0, MOST, MOST);
        o.item(0, 0, MOST, MOST);
        o.notify(0, NONE, 0, 0);
        return o;
    }

    /** Each number of these on an office of its own: taken is an answer that is no refusal. */
    private static void taken(String what, Call call, long... numbers) {
        for (long number : numbers) {
            long answer = call.on(wide(), number);
            check.due(what + " " + number + " is taken (" + answer + ")", answer >= 0 ? 1 : 0, 1);
        }
    }

    private static void refused(String what, Call call, long refusal, long... numbers) {
        for (long number : numbers) {
            Office o = wide();
            long now = o.count(4);
            check.due(what + " " + number, call.on(o, number), refusal);
            check.due(what + " " + number + " has no moment", o.count(4), now);
        }
    }

    private static void days() {
        check.sentence("10949, a YEAR has 365 (YEAR 0 .. 29).");
        List<Call> acts = new ArrayList<>();
        acts.add((o, day) -> o.policy(0, 0, (int) day, 10949));
        acts.add((o, day) -> o.policy(0, 0, 0, (int) day));
        acts.add((o, day) -> o.loss(0, (int) day));
        acts.add((o, day) -> o.notify(0, NONE, 0, (int) day));
        acts.add((o, day) -> o.reserve(0, (int) day, 0, 5));
        acts.add((o, day) -> o.pay(0, (int) day, 5));
        acts.add((o, day) -> o.close(0, (int) day));
        acts.add((o, day) -> o.correct(0, (int) day, 0, 0, 5, 0));
        acts.add((o, day) -> o.correct(0, 0, 0, 0, 5, (int) day));
        acts.add((o, day) -> o.share(0, (int) day, 1, 5));
        acts.add((o, day) -> o.salvage(0, (int) day, 5));
        acts.add((o, day) -> o.recourse(0, (int) day, 0));
        for (int i = 0; i < acts.size(); i++) {
            taken("day of act " + i, acts.get(i), 0, 1, 10948, 10949);
            refused("day of act " + i, acts.get(i), BAD, -1, 10950, LOWEST, HIGHEST);
        }
        Call owed = (o, day) -> o.owed(0, (int) day, o.count(4));
        taken("day of owed()", owed, 0, 1, 10948, 10949);
        refused("day of owed()", owed, NO_ANSWER, -1, 10950, LOWEST, HIGHEST);
        for (int day : new int[] {0, 10949, -1, 10950, LOWEST, HIGHEST}) {
            Office o = wide();
            o.close(0, 0);
            check.due("day of reopen() " + day, o.reopen(0, day, 2), day == 0 || day == 10949 ? 1 : BAD);
        }
    }

    private static void years() {
        check.sentence("10949, a YEAR has 365 (YEAR 0 .. 29).");
        Call period = (o, year) -> o.period(0, (int) year, 5);
        taken("YEAR of period()", period, 0, 1, 28, 29);
        refused("YEAR of period()", period, BAD, -1, 30, LOWEST, HIGHEST);
        List<Call> asks = new ArrayList<>();
        asks.add((o, year) -> o.used(0, (int) year, o.count(4)));
        asks.add((o, year) -> o.reserved(0, (int) year, o.count(4)));
        asks.add((o, year) -> o.run(0, (int) year, 0, o.count(4)));
        asks.add((o, year) -> o.run(1, (int) year, 0, o.count(4)));
        asks.add((o, year) -> o.run(0, 0, (int) year, o.count(4)));
        for (int i = 0; i < asks.size(); i++) {
            taken("YEAR of ask " + i, asks.get(i), 0, 1, 28, 29);
            refused("YEAR of ask " + i, asks.get(i), NO_ANSWER, -1, 30, LOWEST, HIGHEST);
        }
        Office o = wide();
        Tape.type(o, "year 5;");
        o.clauses(0);
        int now = o.count(4);
        for (int year : new int[] {-1, 0, 29, 30, LOWEST, HIGHEST}) {
            check.due("left() of YEAR " + year, o.left(0, year, now), year == 0 || year == 29 ? 5 : NO_ANSWER);
        }
    }

    private static void firstAndLastDaysOfYears() {
        check.sentence("10949, a YEAR has 365 (YEAR 0 .. 29).");
        int[][] firstLastYears = {{0, 364, 0, 0}, {365, 729, 1, 1}, {364, 365, 0, 1}, {10219, 10584, 27, 28},
            {10220, 10584, 28, 28}, {10585, 10949, 29, 29}, {10584, 10585, 28, 29}, {0, 10949, 0, 29}};
        for (int[] f : firstLastYears) {
            Office o = new Office();
            o.person();
            o.policy(0, 0, f[0], f[1]);
            for (int year = -1; year <= 30; year++) {
                check.due("period of YEAR " + year + " of days " + f[0] + " .. " + f[1], o.period(0, year, 5),
                        year < f[2] || year > f[3] ? BAD : 1);
            }
        }
        // the YEAR of a LOSS, of a NOTICE, of a day of payment
        Office o = wide();
        o.loss(FIRE, 364);
        o.item(1, 0, 1000, 1000);
        o.notify(0, NONE, 1, 365);
        o.pay(1, 729, 10);
        o.pay(1, 730, 7);
        int now = o.count(4);
        check.due("by LOSS, a YEAR behind", o.run(0, 0, 1, now), 10);
        check.due("by LOSS, two behind", o.run(0, 0, 2, now), 7);
        check.due("by NOTICE, in its YEAR", o.run(1, 1, 0, now), 10);
        check.due("by NOTICE, a YEAR behind", o.run(1, 1, 1, now), 7);
        check.due("used of the YEAR of day 364", o.used(0, 0, now), 17);
        check.due("used of the YEAR of day 365", o.used(0, 1, now), 0);
    }

    private static void money() {
        check.sentence("MONEY is in cents, told 0 .. 10^12.");
        List<Call> acts = new ArrayList<>();
        acts.add((o, cents) -> o.period(0, 0, cents));
        acts.add((o, cents) -> o.item(o.loss(0, 0), 0, cents, 5));
        acts.add((o, cents) -> o.item(o.loss(0, 0), 0, 5, cents));
        acts.add((o, cents) -> o.reserve(0, 0, 0, cents));
        acts.add((o, cents) -> o.correct(0, 0, 0, 0, cents, 0));
        acts.add((o, cents) -> o.correct(0, 0, 0, 1, cents, 0));
        acts.add((o, cents) -> o.share(0, 0, 1, cents));
        acts.add((o, cents) -> o.salvage(0, 0, cents));
        for (int i = 0; i < acts.size(); i++) {
            taken("cents of act " + i, acts.get(i), 0, 1, MOST - 1, MOST);
        }
        refused("SUM", acts.get(0), BAD, -1, MOST + 1, Long.MIN_VALUE, Long.MAX_VALUE);
        for (int i = 3; i < acts.size(); i++) {
            refused("cents of act " + i, acts.get(i), BAD, -1, MOST + 1, Long.MIN_VALUE, Long.MAX_VALUE);
        }
        for (long cents : new long[] {-1, MOST + 1, Long.MIN_VALUE, Long.MAX_VALUE}) {
            Office o = new Office();
            o.loss(0, 0);
            check.due("AMOUNT " + cents, o.item(0, 0, cents, 5), BAD);
            check.due("VALUE " + cents, o.item(0, 0, 5, cents), BAD);
            check.due("no ITEM came of it", o.item(0, 0, 5, 5), 1);
        }
        // PAID: as much as 10^12, though more is owed; RECOURSE of it
        Call pay = (o, cents) -> o.pay(0, 0, cents);
        taken("cents of pay()", pay, 1, 2, MOST - 1, MOST);
        refused("cents of pay()", pay, BAD, 0, -1, MOST + 1, Long.MIN_VALUE, Long.MAX_VALUE);
        Call recourse = (o, cents) -> {
            o.pay(0, 0, MOST);
            o.pay(0, 0, MOST);
            int now = o.count(4);
            long answer = o.recourse(0, 0, cents);
            check.due("moments of recourse " + cents, o.count(4), answer == 1 ? now + 1 : now);
            return answer;
        };
        taken("cents of recourse()", recourse, 0, 1, MOST);
        for (long cents : new long[] {-1, MOST + 1, Long.MIN_VALUE, Long.MAX_VALUE}) {
            check.due("recourse " + cents, recourse.on(wide(), cents), BAD);
        }
    }

    private static void quotients() {
        check.sentence("A QUOTIENT is rounded down.");
        // AVERAGE: 500 * 700 / 701 = 499.2, and 500 * 350 / 701 = 249.6
        Desk d = Desk.with(check, 0, 700);
        int c = d.claim(FIRE, 0, 500, 701);
        d.due("AVERAGE", d.owed(c, 0), 499);
        d.office.period(0, 0, 350);
        d.due("AVERAGE", d.owed(c, 0), 249);
        // SELF of a TRANSPORT by FIRE: 5 of a hundred of 199 are 9.95
        d = Desk.with(check, TRANSPORT, 0);
        d.dueRows(d.claim(FIRE, 0, 199, 199), 0, "190 f0 | 0 0 199 | 4 5 -9");
        // HUNDREDTHS: 33 of 199 are 65.67, 50 of these 32.5; SELF 1.6
        d.office.part(0, 33);
        d.office.part(1, 50);
        d.dueRows(d.office.notify(0, NONE, 1, 0), 0, "62 f0 | 0 0 65 | 4 5 -3");
        d.dueRows(d.office.notify(0, NONE, 2, 0), 0, "31 f0 | 0 0 32 | 4 5 -1");
        // INTEREST: 9999 a day at 365 of 10000 a year is 0.9999
        d = Desk.with(check, CAR, 0);
        d.clauses(0, "interest 365;");
        d.claim(FIRE, 0, 9999, 9999);
        d.dueRows(0, 1, "9999 f0 | 0 0 9999");
        d.dueRows(0, 2, "10000 f0 | 0 0 9999 | 11 0 1");
        // shares of a round: 8 by 3 is 2 and two cents more
        d = Desk.with(check, CAR, 0);
        d.office.shareRule(0, 1);
        d.claim(FIRE, 0, 8, 8);
        d.office.share(0, 0, 1, 8);
        d.office.share(0, 0, 2, 8);
        d.office.rank(0, 9);
        d.due("shares by rounds", d.owed(0, 0), 2);
        d.office.shareRule(0, 0);
        d.due("shares by ALONE", d.owed(0, 0), 2);
    }

    private static void numbersOfClauses() {
        check.sentence("(In CLAUSES, too, NUMBERS of item, loss, year, own loss, own year, amount are cents;"
                + " that of interest is of 10000 a year.)");
        String[] clauses = {"item 700;", "loss 700;", "year 700;", "own loss 700;", "own year 700;",
            "out any unless amount 999;", "out any unless amount 1000;"};
        long[] due = {700, 700, 700, 300, 300, 1000, 0};
        for (int i = 0; i < clauses.length; i++) {
            Desk d = Desk.with(check, CAR, 0);
            d.claim(FIRE, 0, 1000, 1000);
            d.clauses(0, clauses[i]);
            d.due(clauses[i], d.owed(0, 0), due[i]);
        }
        Desk d = Desk.with(check, CAR, 0);
        d.claim(FIRE, 0, 10000, 10000);
        d.clauses(0, "interest 1;");
        d.due("364 days", d.owed(0, 364), 10000);
        d.due("a year", d.owed(0, 365), 10001);
        d.clauses(0, "interest 10000;");
        d.due("a year of all of it", d.owed(0, 365), 20000);
        d.clauses(0, "interest 0;");
        d.due("none", d.owed(0, 10949), 10000);
    }

    private static Desk sharing(long worth, long alone) {
        Desk d = Desk.with(check, CAR, 0);
        d.claim(FIRE, 0, worth, worth);
        d.office.share(0, 0, 1, alone);
        return d;
    }

    private static void great() {
        check.sentence("A product or sum that is worked (part 5) and is beyond 2^62 is GREAT.");
        long half = 1L << 31;
        // AVERAGE: s times THE SUM
        Desk d = Desk.with(check, 0, half);
        d.dueRows(d.claim(FIRE, 0, half, half), 0, half + " f0 | 0 0 " + half);
        d.dueRows(d.claim(FIRE, 0, half + 1, half + 1), 0, "none f5 | 0 0 " + (half + 1));
        d.office.period(0, 0, half + 1);
        d.dueRows(0, 0, "none f5 | 0 0 " + half);
        d.office.period(0, 0, half - 1);
        d.dueRows(0, 0, (half - 1) + " f0 | 0 0 " + half + " | 3 0 -1");
        d.office.period(0, 0, 0);
        d.dueRows(0, 0, "0 f0 | 0 0 " + half + " | 3 0 " + -half);
        // rule 0: T times each ALONE; 2^30 times 2^32 is just not beyond
        long quarter = 1L << 30;
        d = sharing(quarter, 1L << 32);
        d.dueRows(0, 0, quarter / 5 + 1 + " f0 | 0 0 " + quarter + " | 7 1 " + (quarter / 5 + 1 - quarter));
        d = sharing(quarter, (1L << 32) + 1);
        d.dueRows(0, 0, "none f5 | 0 0 " + quarter);
        d = sharing(half + 1, half - 1);
        d.dueRows(0, 0, "none f5 | 0 0 " + (half + 1));
        d = sharing(half, half);
        d.dueRows(0, 0, half / 2 + " f0 | 0 0 " + half + " | 7 1 " + -half / 2);
        // INTEREST: 2^33 for a day times 2^29 is just not beyond; two days of it are
        d = Desk.with(check, CAR, 0);
        d.clauses(0, "interest 536870912;");
        long s = 1L << 33;
        d.claim(FIRE, 0, s, s);
        d.dueRows(0, 1, s + (1L << 62) / 3650000 + " f0 | 0 0 " + s + " | 11 0 " + (1L << 62) / 3650000);
        d.dueRows(0, 2, "none f5 | 0 0 " + s);
        d.claim(FIRE, 0, s + 1, s + 1);
        d.dueRows(1, 0, s + 1 + " f0 | 0 0 " + (s + 1));
        d.dueRows(1, 1, "none f5 | 0 0 " + (s + 1));
        d.clauses(0, "interest 536870913;");
        d.dueRows(0, 1, "none f5 | 0 0 " + s);
    }

    /** The greatest that there can be: six ITEMS of 10^12, by all HUNDREDTHS, for 10949 days. */
    private static void sumsAreNotGreat() {
        check.sentence("A product or sum that is worked (part 5) and is beyond 2^62 is GREAT.");
        Office o = new Office();
        o.person();
        o.policy(CAR, 0, 0, 10949);
        o.period(0, 0, MOST);
        o.loss(FIRE, 0);
        for (int i = 0; i < 6; i++) {
            o.item(0, 0, MOST, MOST);
        }
        for (int i = 0; i < 4; i++) {
            o.part(i, 100);
        }
        Tape.type(o, "interest 70;");
        o.clauses(0);
        o.notify(0, NONE, 4, 0);
        check.due("INTEREST of 10949 days", o.owed(0, 10949, o.count(4)), 6 * MOST + 6 * MOST / 3650000 * 10949 * 70
                + 6 * MOST % 3650000 * 10949 * 70 / 3650000);
        o.shareRule(0, 1);
        for (int insurer = 1; insurer < 6; insurer++) {
            o.share(0, 0, insurer, MOST);
        }
        check.due("shares", o.owed(0, 0, o.count(4)), MOST);
        check.due("WORTH", o.cents(0), 6 * MOST);
    }

    private static void moments() {
        check.sentence("MOMENTS: 0 at first; each act that is done has the next one"
                + " (those of rank() to recourse(), person() too).");
        Office o = new Office();
        check.due("at first", o.count(4), 0);
        List<Call> acts = new ArrayList<>();
        acts.add((x, n) -> x.person());
        acts.add((x, n) -> x.rank(0, 0));
        acts.add((x, n) -> x.policy(CAR, 0, 0, 900));
        acts.add((x, n) -> x.policy(BUNDLE, 0, 0, 900));
        acts.add((x, n) -> x.bundle(1, 0, 0));
        acts.add((x, n) -> x.period(0, 0, 900));
        acts.add((x, n) -> x.clauses(0));
        acts.add((x, n) -> x.shareRule(0, 0));
        acts.add((x, n) -> x.loss(FIRE, 5));
        acts.add((x, n) -> x.part(0, 50));
        acts.add((x, n) -> x.item(0, 0, 500, 500));
        acts.add((x, n) -> x.notify(0, NONE, 0, 5));
        acts.add((x, n) -> x.reserve(0, 5, 0, 5));
        acts.add((x, n) -> x.pay(0, 5, 5));
        acts.add((x, n) -> x.close(0, 5));
        acts.add((x, n) -> x.reopen(0, 5, 0));
        acts.add((x, n) -> x.correct(0, 5, 0, 0, 5, 5));
        acts.add((x, n) -> x.share(0, 5, 1, 5));
        acts.add((x, n) -> x.salvage(0, 5, 5));
        acts.add((x, n) -> x.recourse(0, 5, 5));
        for (int i = 0; i < acts.size(); i++) {
            long answer = acts.get(i).on(o, 0);
            check.due("act " + i + " is done (" + answer + ")", answer >= 0 ? 1 : 0, 1);
            check.due("moment of act " + i, o.count(4), i + 1);
        }
        check.due("the moment of a case", o.of(0, 6), 12);
        // all others have none
        int now = o.count(4);
        o.type(5, 1);
        o.type(0, 0);
        o.batch();
        o.undo();
        o.batch();
        o.end();
        o.owed(0, 5, now);
        o.say();
        o.tell(0, now);
        o.write();
        o.used(0, 0, now);
        check.due("no others", o.count(4), now);
    }

    private static void known() {
        check.sentence("KNOWN at a moment is what was done at it or ahead of it;"
                + " what is told anew counts from its MOMENT on.");
        Desk d = Desk.with(check, CAR, 0);
        Office o = d.office;
        d.claim(FIRE, 5, 101, 101);
        o.share(0, 5, 1, 101);
        int[] moments = new int[6];
        long[] owed = {51, 50, 51, 42, 101, 61};
        moments[0] = o.count(4);
        o.rank(0, 7);
        moments[1] = o.count(4);
        o.rank(1, 8);
        moments[2] = o.count(4);
        // 101 by 70 : 101 is 41.3, and the cent that is left goes to RANK 7
        d.clauses(0, "loss 70;");
        moments[3] = o.count(4);
        d.clauses(0, "");
        o.shareRule(0, 2);
        moments[4] = o.count(4);
        o.share(0, 5, 1, 9);
        o.salvage(0, 5, 40);
        moments[5] = o.count(4);
        for (int i = 0; i < 6; i++) {
            d.due("owed as known at " + moments[i], o.owed(0, 5, moments[i]), owed[i]);
        }
        d.due("owed as known ahead of the share", o.owed(0, 5, moments[0] - 1), 101);
        d.due("owed ahead of the salvage", o.owed(0, 5, moments[5] - 1), 101);
    }

    private static void persons() {
        check.sentence("PERSONS 0, 1, .. (100 at most).");
        Office o = new Office();
        for (int i = 0; i < 100; i++) {
            check.due("person", o.person(), i);
            check.due("the next one is none yet", o.policy(0, i + 1, 0, 1), BAD);
        }
        check.due("the 101st", o.person(), FULL);
        check.due("persons", o.count(0), 100);
        check.due("there is a person 99", o.policy(0, 99, 0, 1), 0);
        check.due("there is no person 100", o.policy(0, 100, 0, 1), BAD);
        check.due("there is no person -1", o.policy(0, -1, 0, 1), BAD);
    }

    private static void insurers() {
        check.sentence("INSURERS 0 .. 5: 0 is this office; each has a RANK (at first its number).");
        for (int insurer : new int[] {LOWEST, -1, 0, 1, 5, 6, HIGHEST}) {
            Office o = wide();
            check.due("rank of " + insurer, o.rank(insurer, 0), insurer >= 0 && insurer <= 5 ? 1 : BAD);
            check.due("share of " + insurer, o.share(0, 0, insurer, 5), insurer >= 1 && insurer <= 5 ? 1 : BAD);
        }
        // by rule 2 and their own numbers: each in turn has what this office then lacks
        for (int rank = 0; rank <= 6; rank++) {
            Desk d = Desk.with(check, CAR, 0);
            d.office.shareRule(0, 2);
            d.claim(FIRE, 0, 100, 100);
            for (int insurer = 1; insurer <= 5; insurer++) {
                d.office.share(0, 0, insurer, 10 * insurer);
            }
            d.office.rank(0, rank);
            // behind 1 .. rank - 1, but ahead of the one with the same RANK: its number is less
            int ahead = Math.min(rank - 1, 5) * (Math.min(rank - 1, 5) + 1) / 2 * 10;
            d.due("this office with RANK " + rank, d.owed(0, 0), rank == 0 ? 100 : Math.max(100 - ahead, 0));
        }
    }

    private static void policies() {
        check.sentence("POLICIES 0, 1, .. (100 at most) have a KIND, a PERSON, a TERM of days;"
                + " its YEARS are those of its first to its last day.");
        Office o = new Office();
        o.person();
        for (int i = 0; i < 100; i++) {
            check.due("policy", o.policy(i % 7, 0, i, i), i);
            check.due("the next one is none yet", o.tell(i + 1, 0), BAD);
        }
        check.due("the 101st", o.policy(0, 0, 0, 1), FULL);
        check.due("there is a policy 99", o.period(99, 0, 5), 1);
        check.due("there is no policy 100", o.period(100, 0, 5), BAD);
        check.due("policies", o.count(1), 100);
        check.due("moment", o.count(4), 102);
    }

    private static void sums() {
        check.sentence("A PERIOD, a YEAR of it, has a SUM, once that is told.");
        Office o = new Office();
        o.person();
        o.policy(0, 0, 0, 800);
        o.loss(FIRE, 400);
        o.item(0, 0, 100, 100);
        o.notify(0, NONE, 0, 400);
        int now = o.count(4);
        o.period(0, 0, 50);
        o.period(0, 2, 60);
        check.due("not told", o.owed(0, 400, o.count(4)), NO_ANSWER);
        check.due("NOTHING", o.finding(), 1);
        o.period(0, 1, 70);
        check.due("told", o.owed(0, 400, o.count(4)), 70);
        check.due("not told then", o.owed(0, 400, now + 2), NO_ANSWER);
        o.period(0, 1, 0);
        check.due("a SUM of 0 is told, too", o.owed(0, 400, o.count(4)), 0);
        check.due("no finding", o.finding(), 0);
    }

    private static void clausesAndRule() {
        check.sentence("It has CLAUSES (part 3; at first none) and a RULE (at first 0).");
        Desk d = Desk.with(check, CAR, 0);
        d.due("no clauses", d.office.tell(0, (int) d.now()), 0);
        d.claim(FIRE, 0, 90, 90);
        d.office.share(0, 0, 1, 30);
        // rule 0 gives 67.5, rule 1 60, rule 2 90
        d.due("rule 0", d.owed(0, 0), 68);
        d.office.shareRule(0, 0);
        d.due("rule 0, told", d.owed(0, 0), 68);
    }

    private static void bundles() {
        check.sentence("A BUNDLE has PLACES 0 .. 3, each with nothing or a POLICY;"
                + " no BUNDLE comes to stand within itself.");
        for (int place : new int[] {LOWEST, -1, 0, 1, 2, 3, 4, HIGHEST}) {
            Desk d = Desk.with(check, CAR, 0);
            Office o = d.office;
            o.policy(BUNDLE, 0, 0, 1094);
            o.loss(FIRE, 0);
            o.item(0, 0, 70, 70);
            boolean is = place >= 0 && place <= 3;
            check.due("notify to place " + place, o.notify(1, place, 0, 0), is ? 0 : BAD);
            check.due("bundle with place " + place, o.bundle(1, place, 0), is ? 1 : BAD);
            if (is) {
                d.dueRows(0, 0, "70 f0 | 0 0 70");
                check.due("nothing in it", o.bundle(1, place, NONE), 1);
                d.dueRows(0, 0, "none f1");
            }
        }
    }

    private static void longBundles() {
        check.sentence("A BUNDLE has PLACES 0 .. 3, each with nothing or a POLICY;"
                + " no BUNDLE comes to stand within itself.");
        // 99 BUNDLES one in the other, a CAR in the last one
        Office o = new Office();
        o.person();
        for (int i = 0; i < 99; i++) {
            o.policy(BUNDLE, 0, 0, 10);
        }
        o.policy(CAR, 0, 0, 10);
        o.period(99, 0, 5);
        for (int i = 0; i < 98; i++) {
            check.due("in the one before", o.bundle(i, i == 0 ? 2 : 0, i + 1), 1);
        }
        for (int i = 98; i >= 0; i -= 14) {
            check.due("the first one in " + i, o.bundle(i, 3, 0), STATE);
        }
        check.due("one in itself", o.bundle(98, 0, 98), STATE);
        check.due("in the one that it is in", o.bundle(98, 0, 97), STATE);
        check.due("the car", o.bundle(98, 0, 99), 1);
        o.loss(FIRE, 0);
        o.item(0, 0, 70, 70);
        o.notify(0, 2, 0, 0);
        check.due("through all of them", o.owed(0, 0, o.count(4)), 70);
        o.bundle(50, 0, NONE);
        check.due("nothing on the way", o.owed(0, 0, o.count(4)), NO_ANSWER);
        check.due("NOTHING", o.finding(), 1);
        check.due("now it would not stand within itself", o.bundle(98, 3, 0), 1);
        check.due("but now the way back would", o.bundle(50, 1, 51), STATE);
        check.due("as known before", o.owed(0, 0, o.count(4) - 2), 70);
    }

    private static void losses() {
        check.sentence("LOSSES 0, 1, .. (200 at most) have a KIND and a day; ITEMS 0 .. 5,"
                + " each of a SORT 0 .. 9, an AMOUNT and a VALUE.");
        Office o = new Office();
        for (int i = 0; i < 200; i++) {
            check.due("loss", o.loss(i % 5, i), i);
        }
        check.due("the 201st", o.loss(0, 0), FULL);
        check.due("a part is a LOSS, too", o.part(0, 1), FULL);
        check.due("losses", o.count(2), 200);
        check.due("there is a loss 199", o.item(199, 0, 1, 1), 1);
        check.due("there is no loss 200", o.item(200, 0, 1, 1), BAD);
        check.due("there is no loss -1", o.item(-1, 0, 1, 1), BAD);
        for (int i = 1; i <= 6; i++) {
            check.due("item", o.item(0, 9 - i, i, i), i);
        }
        check.due("the seventh", o.item(0, 0, 1, 1), FULL);
        for (int sort : new int[] {LOWEST, -1, 0, 9, 10, HIGHEST}) {
            check.due("sort " + sort, o.item(sort == 9 ? 2 : 1, sort, 1, 1), sort == 0 || sort == 9 ? 1 : BAD);
        }
        // the sixth ITEM counts in all
        Desk d = Desk.with(check, CAR, 0);
        d.office.loss(THIRD, 0);
        for (int i = 0; i < 6; i++) {
            d.office.item(0, i, 1L << i, 0);
        }
        d.office.notify(0, NONE, 0, 0);
        d.due("six items", d.owed(0, 0), 63);
        d.clauses(0, "out any unless sort 5;");
        d.due("the sort of the sixth", d.owed(0, 0), 63);
        d.office.correct(0, 0, 5, 0, 0, 0);
        d.due("the sixth corrected", d.owed(0, 0), 31);
        check.due("there is no seventh", d.office.correct(0, 0, 6, 0, 0, 0), BAD);
    }

    private static void parts() {
        check.sentence("A PART has the ITEMS of another LOSS, its WHOLE (perhaps a PART: 4 one of the other at most),"
                + " and HUNDREDTHS 1 .. 100.");
        Office o = new Office();
        o.loss(FIRE, 5);
        for (int hundredths : new int[] {LOWEST, -1, 0, 101, HIGHEST}) {
            check.due("hundredths " + hundredths, o.part(0, hundredths), BAD);
        }
        check.due("losses", o.count(2), 1);
        check.due("1", o.part(0, 1), 1);
        check.due("100", o.part(1, 100), 2);
        check.due("the third of the other", o.part(2, 50), 3);
        check.due("the fourth of the other", o.part(3, 50), 4);
        check.due("the fifth of the other", o.part(4, 50), STATE);
        check.due("losses", o.count(2), 5);
        check.due("another fourth", o.part(3, 50), 5);
        check.due("another first", o.part(0, 50), 6);
        // an ITEM that comes later is that of the PARTS, too
        Desk d = Desk.with(check, CAR, 0);
        d.office.loss(FIRE, 0);
        d.office.part(0, 1);
        d.office.part(1, 100);
        d.office.item(0, 0, 9900, 9900);
        d.office.item(0, 0, 100, 100);
        d.dueRows(d.office.notify(0, NONE, 2, 0), 0, "100 f0 | 0 0 100");
        check.due("of the day of its WHOLE", d.office.part(d.office.loss(FIRE, 9), 5), 4);
        check.due("ahead of that day", d.office.notify(0, NONE, 4, 8), DAY);
        check.due("on that day", d.office.notify(0, NONE, 4, 9), 1);
    }
}
