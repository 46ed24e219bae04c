/** Part 4 of the document with promises 13 to 21: NOTICES and FACTS, at the edges of their days and numbers. */
public final class CasesTest {
    private static final int NONE = -1, BAD = -2, STATE = -3, DAY = -4, LATE = -5, MUCH = -6, FULL = -7;
    private static final int LOWEST = Integer.MIN_VALUE, HIGHEST = Integer.MAX_VALUE;
    private static final long NO_ANSWER = ClaimsOffice.NO_ANSWER;
    private static final long MOST = 1000000000000L;
    private static final int FIRE = 0, WATER = 1, THIRD = 4;
    private static final int CAR = 2, LIABILITY = 3, BUNDLE = 6;
    private static final Check check = new Check();

    public static void main(String[] args) {
        noticeDays();
        noticesOf();
        hundredCases();
        daysOfFacts();
        fortyFacts();
        factsOfWhichCase();
        reservedKinds();
        openAndClosed();
        grounds();
        groundsByTheLatestClosing();
        reopening();
        correctedOf();
        correctedSince();
        correctedToldLast();
        sharedWith();
        payingWhatIsOwed();
        payingWithFindings();
        payingOfInterest();
        payingWithinTheYear();
        payingInOtherYears();
        salvage();
        recourse();
        check.done();
    }

    private static Desk car() {
        return Desk.with(check, CAR, 0);
    }

    // ---- promise 13

    private static void noticeDays() {
        check.sentence("A CASE is a LOSS notified to a POLICY (of a BUNDLE to one of its PLACES) on a NOTICE day,"
                + " not ahead of the LOSS, nor of the NOTICE of any case before.");
        Desk d = car();
        Office o = d.office;
        o.loss(FIRE, 50);
        o.loss(FIRE, 10);
        o.part(0, 5);
        d.due("a day ahead of the loss", o.notify(0, NONE, 0, 49), DAY);
        d.due("ahead of that of a part", o.notify(0, NONE, 2, 49), DAY);
        d.due("cases", o.count(3), 0);
        d.due("a refused notice notifies nothing", o.item(0, 0, 1, 1), 1);
        d.due("on its day", o.notify(0, NONE, 0, 50), 0);
        d.due("a day ahead of the notice before", o.notify(0, NONE, 1, 49), DAY);
        d.due("on the day of the notice before", o.notify(0, NONE, 1, 50), 1);
        d.due("later", o.notify(0, NONE, 1, 60), 2);
        // of any case before, of whatever POLICY: the greatest day of them
        o.policy(CAR, 0, 0, 1094);
        d.due("of another policy, ahead of the last", o.notify(1, NONE, 1, 59), DAY);
        d.due("of another policy", o.notify(1, NONE, 1, 60), 3);
        d.due("ahead of the loss, behind the notices", o.notify(0, NONE, o.loss(FIRE, 62), 61), DAY);
        d.due("the last day", o.notify(0, NONE, 1, 10949), 4);
        d.due("the day before", o.notify(0, NONE, 1, 10948), DAY);
        d.due("the last day again", o.notify(0, NONE, 0, 10949), 5);
    }

    private static void noticesOf() {
        check.sentence("A CASE: its number. place: NONE, but of a BUNDLE 0 .. 3. BAD; DAY; FULL: 100.");
        Desk d = car();
        Office o = d.office;
        o.policy(BUNDLE, 0, 0, 10);
        o.loss(FIRE, 5);
        int[][] bad = {{-1, NONE, 0, 5}, {2, NONE, 0, 5}, {0, 0, 0, 5}, {0, 3, 0, 5}, {0, -2, 0, 5}, {0, 4, 0, 5},
            {1, NONE, 0, 5}, {1, -2, 0, 5}, {1, 4, 0, 5}, {0, NONE, -1, 5}, {0, NONE, 1, 5}, {0, NONE, 0, -1},
            {0, NONE, 0, 10950}, {0, LOWEST, 0, 5}, {1, HIGHEST, 0, 5}, {LOWEST, NONE, 0, 5}, {0, NONE, HIGHEST, 5}};
        for (int[] b : bad) {
            d.due("notify" + java.util.Arrays.toString(b), o.notify(b[0], b[1], b[2], b[3]), BAD);
        }
        d.due("BAD ahead of DAY", o.notify(0, 0, 0, 4), BAD);
        d.due("cases", o.count(3), 0);
        d.due("of a policy", o.notify(0, NONE, 0, 5), 0);
        d.due("of place 0", o.notify(1, 0, 0, 5), 1);
        d.due("of place 3", o.notify(1, 3, 0, 5), 2);
        d.due("its place", o.of(0, 1), NONE);
        d.due("its place", o.of(1, 1), 0);
        d.due("its place", o.of(2, 1), 3);
        d.due("its policy", o.of(2, 0), 1);
    }

    private static void hundredCases() {
        check.sentence("A CASE: its number. place: NONE, but of a BUNDLE 0 .. 3. BAD; DAY; FULL: 100.");
        Desk d = car();
        Office o = d.office;
        o.loss(FIRE, 5);
        o.item(0, 0, 7, 7);
        for (int i = 0; i < 100; i++) {
            d.due("notify", o.notify(0, NONE, 0, 5 + i), i);
        }
        int now = o.count(4);
        d.due("the 101st", o.notify(0, NONE, 0, 104), FULL);
        d.due("DAY ahead of it", o.notify(0, NONE, 0, 103), DAY);
        d.due("BAD ahead of it", o.notify(0, 0, 0, 104), BAD);
        d.due("cases", o.count(3), 100);
        d.due("moment", o.count(4), now);
        d.due("there is a case 99", o.of(99, 3), 104);
        d.due("there is no case 100", o.of(100, 3), BAD);
        d.due("a fact of case 99", o.pay(99, 104, 7), 1);
        d.due("a fact of case 100", o.pay(100, 104, 7), BAD);
        d.due("used by case 99", o.used(0, 0, now + 1), 7);
    }

    // ---- FACTS

    private static void daysOfFacts() {
        check.sentence("FACTS of a case (40 at most) have a day, not ahead of the NOTICE nor of that of the one before:");
        for (Fact fact : Fact.values()) {
            Desk d = car();
            Office o = d.office;
            int other = d.claim(FIRE, 90, 1000, 1000);
            int c = d.claim(FIRE, 100, 1000, 1000);
            if (fact == Fact.REOPEN) {
                o.close(c, 100);
            }
            int facts = o.of(c, 5);
            d.due(fact + " a day ahead of the notice", fact.tell(o, c, 99), DAY);
            d.due(fact + " on day 0", fact.tell(o, c, 0), DAY);
            d.due("facts", o.of(c, 5), facts);
            d.due(fact + " on the day of the notice", fact.tell(o, c, 100), 1);
            d.due("facts", o.of(c, 5), facts + 1);

            d = car();
            o = d.office;
            other = d.claim(FIRE, 90, 1000, 1000);
            c = d.claim(FIRE, 100, 1000, 1000);
            o.reserve(c, 150, 1, 1);
            o.reserve(other, 300, 1, 1);
            if (fact == Fact.REOPEN) {
                o.close(c, 150);
            }
            d.due(fact + " a day ahead of the one before", fact.tell(o, c, 149), DAY);
            d.due(fact + " on the day of the one before", fact.tell(o, c, 150), 1);
            d.due("of the case alone", o.reserve(other, 299, 0, 5), DAY);
        }
    }

    private static void fortyFacts() {
        check.sentence("(All FACTS: HELD, or FULL, in a BATCH; else BAD; STATE: it is not OPEN; DAY; FULL: 40.)");
        for (Fact fact : Fact.values()) {
            Desk d = car();
            Office o = d.office;
            int c = d.claim(FIRE, 100, 1000, 1000);
            int other = d.claim(FIRE, 100, 1000, 1000);
            for (int i = 0; i < 38; i++) {
                d.due("fact " + i, o.reserve(c, 100, 0, i), 1);
            }
            if (fact == Fact.REOPEN) {
                o.close(c, 100);
                d.due("the 40th: " + fact, fact.tell(o, c, 100), 1);
            } else {
                o.reserve(c, 100, 0, 5);
                d.due("the 40th: " + fact, fact.tell(o, c, 100), 1);
            }
            d.due("facts", o.of(c, 5), 40);
            int now = o.count(4);
            d.due("the 41st", fact == Fact.CLOSE ? o.reopen(c, 100, 2) : o.close(c, 100), FULL);
            d.due("facts", o.of(c, 5), 40);
            d.due("moment", o.count(4), now);
            d.due("another case", fact == Fact.REOPEN ? o.close(other, 100) : fact.tell(o, other, 100), 1);
        }
        for (Fact fact : Fact.values()) {
            Desk d = car();
            Office o = d.office;
            int c = d.claim(FIRE, 100, 1000, 1000);
            for (int i = 0; i < 39; i++) {
                o.reserve(c, 100, 0, i);
            }
            d.due("the 40th", fact == Fact.REOPEN ? o.close(c, 100) : o.reserve(c, 100, 0, 7), 1);
            d.due("the 41st: " + fact, fact.tell(o, c, 100), FULL);
            d.due("BAD ahead of it: " + fact, fact.tell(o, c + 1, 100), BAD);
            d.due("DAY ahead of it: " + fact, fact.tell(o, c, 99), DAY);
            d.due("what is reserved", o.reserved(0, 0, o.count(4)), fact == Fact.REOPEN ? 0 : 7);
        }
    }

    private static void factsOfWhichCase() {
        check.sentence("(All FACTS: HELD, or FULL, in a BATCH; else BAD; STATE: it is not OPEN; DAY; FULL: 40.)");
        for (Fact fact : Fact.values()) {
            Desk d = car();
            int c = d.claim(FIRE, 100, 1000, 1000);
            for (int none : new int[] {LOWEST, -1, c + 1, HIGHEST}) {
                d.due(fact + " of case " + none, fact.tell(d.office, none, 100), BAD);
            }
            d.due("BAD ahead of DAY: " + fact, fact.tell(d.office, c + 1, 0), BAD);
            d.due("facts", d.office.of(c, 5), 0);
        }
    }

    private static void reservedKinds() {
        check.sentence("it is RESERVED (kinds 0 .. 2), PAID, CLOSED, REOPENED by a ground,");
        Desk d = car();
        Office o = d.office;
        int c = d.claim(FIRE, 100, 1000, 1000);
        for (int kind : new int[] {LOWEST, -1, 3, HIGHEST}) {
            d.due("kind " + kind, o.reserve(c, 100, kind, 5), BAD);
            d.due("reserved of it", o.reserved(kind, 0, o.count(4)), NO_ANSWER);
        }
        for (int kind = 0; kind <= 2; kind++) {
            d.due("kind " + kind, o.reserve(c, 100, kind, 5 + kind), 1);
        }
        for (int kind = 0; kind <= 2; kind++) {
            d.due("reserved of kind " + kind, o.reserved(kind, 0, o.count(4)), 5 + kind);
        }
        check.sentence("RESERVED: 1.");
        d.due("again, less", o.reserve(c, 100, 1, 0), 1);
        d.due("the last one", o.reserved(1, 0, o.count(4)), 0);
        d.due("the others stay", o.reserved(2, 0, o.count(4)), 7);
        d.due("more than is owed", o.reserve(c, 100, 1, MOST), 1);
        d.due("the last one", o.reserved(1, 0, o.count(4)), MOST);
    }

    private static void openAndClosed() {
        check.sentence("It is OPEN, unless it was CLOSED and not REOPENED since.");
        Desk d = car();
        Office o = d.office;
        int c = d.claim(FIRE, 100, 1000, 1000);
        int other = d.claim(FIRE, 100, 1000, 1000);
        d.due("open at first", o.of(c, 4), 1);
        for (int round = 0; round < 3; round++) {
            d.due("reopen what is open", o.reopen(c, 100, 0), STATE);
            d.due("close", o.close(c, 100), 1);
            d.due("it is not open", o.of(c, 4), 0);
            d.due("the other is", o.of(other, 4), 1);
            for (Fact fact : Fact.values()) {
                if (fact != Fact.REOPEN) {
                    d.due(fact + " of what is not open", fact.tell(o, c, 100), STATE);
                    d.due(fact + ", ahead of DAY", fact.tell(o, c, 99), STATE);
                    d.due(fact + ", behind BAD", fact.tell(o, c, -1), BAD);
                }
            }
            d.due("facts", o.of(c, 5), 2 * round + 1);
            d.due("reopen", o.reopen(c, 100, 0), 1);
            d.due("open", o.of(c, 4), 1);
        }
        d.due("a fact behind it", o.reserve(c, 100, 0, 5), 1);
        check.sentence("CLOSED: 1.");
        d.due("on the last day", o.close(c, 10949), 1);
        d.due("it is not open now, whatever the day", o.of(c, 4), 0);
    }

    private static void grounds() {
        check.sentence("Grounds: 0 at most 30 days behind the latest closing, 1 at most 365, 2 at any time.");
        int[] behind = {0, 1, 29, 30, 31, 364, 365, 366, 10849};
        for (int ground = 0; ground <= 2; ground++) {
            for (int days : behind) {
                Desk d = car();
                int c = d.claim(FIRE, 100, 1000, 1000);
                d.office.close(c, 100);
                boolean late = ground == 0 && days > 30 || ground == 1 && days > 365;
                d.due("ground " + ground + ", " + days + " days", d.office.reopen(c, 100 + days, ground), late ? LATE : 1);
                d.due("facts", d.office.of(c, 5), late ? 1 : 2);
                d.due("open", d.office.of(c, 4), late ? 0 : 1);
            }
        }
        Desk d = car();
        int c = d.claim(FIRE, 100, 1000, 1000);
        for (int ground : new int[] {LOWEST, -1, 3, HIGHEST}) {
            d.due("BAD ahead of STATE: ground " + ground, d.office.reopen(c, 100, ground), BAD);
        }
        d.office.close(c, 110);
        for (int ground : new int[] {LOWEST, -1, 3, HIGHEST}) {
            d.due("ground " + ground, d.office.reopen(c, 110, ground), BAD);
        }
    }

    private static void groundsByTheLatestClosing() {
        check.sentence("Grounds: 0 at most 30 days behind the latest closing, 1 at most 365, 2 at any time.");
        Desk d = car();
        Office o = d.office;
        int c = d.claim(FIRE, 100, 1000, 1000);
        o.close(c, 100);
        o.reopen(c, 130, 0);
        o.reserve(c, 140, 0, 5);
        o.close(c, 150);
        d.due("behind the first closing by 81, the latest by 31", o.reopen(c, 181, 0), LATE);
        d.due("behind the latest by 30", o.reopen(c, 180, 0), 1);
        o.close(c, 200);
        d.due("behind the latest by 366", o.reopen(c, 566, 1), LATE);
        d.due("behind the latest by 365", o.reopen(c, 565, 1), 1);
        // another case's closing is none of this one
        int other = d.claim(FIRE, 600, 1000, 1000);
        o.close(c, 600);
        o.close(other, 640);
        d.due("31 days behind its own", o.reopen(c, 631, 0), LATE);
        d.due("30 days behind its own", o.reopen(c, 630, 0), 1);
    }

    private static void reopening() {
        check.sentence("REOPENED: 1. STATE: it is OPEN. LATE: by its ground.");
        Desk d = car();
        Office o = d.office;
        int c = d.claim(FIRE, 100, 1000, 1000);
        d.due("open", o.reopen(c, 100, 2), STATE);
        d.due("STATE ahead of DAY", o.reopen(c, 99, 2), STATE);
        for (int i = 0; i < 39; i++) {
            o.reserve(c, 100, 0, i);
        }
        o.close(c, 110);
        d.due("a day ahead", o.reopen(c, 109, 0), DAY);
        d.due("LATE ahead of FULL", o.reopen(c, 141, 0), LATE);
        d.due("FULL", o.reopen(c, 140, 0), FULL);
        d.due("not open", o.of(c, 4), 0);
    }

    private static void correctedOf() {
        check.sentence("CORRECTED, AMOUNT (what = 0) or VALUE (1), from a day on: 1. BAD: also no such ITEM; from.");
        Desk d = car();
        Office o = d.office;
        o.loss(FIRE, 100);
        o.item(0, 0, 10, 10);
        o.item(0, 0, 20, 20);
        o.loss(FIRE, 100);
        o.part(0, 50);
        int c = o.notify(0, NONE, 0, 100);
        int empty = o.notify(0, NONE, 1, 100);
        int part = o.notify(0, NONE, 2, 100);
        for (int item : new int[] {LOWEST, -1, 2, 5, 6, HIGHEST}) {
            d.due("item " + item, o.correct(c, 100, item, 0, 5, 0), BAD);
            d.due("item " + item + " of a part", o.correct(part, 100, item, 0, 5, 0), BAD);
        }
        d.due("an item of none", o.correct(empty, 100, 0, 0, 5, 0), BAD);
        for (int what : new int[] {LOWEST, -1, 2, HIGHEST}) {
            d.due("what " + what, o.correct(c, 100, 0, what, 5, 0), BAD);
        }
        for (int from : new int[] {LOWEST, -1, 10950, HIGHEST}) {
            d.due("from " + from, o.correct(c, 100, 0, 0, 5, from), BAD);
        }
        d.due("facts", o.of(c, 5), 0);
        d.due("the first item, from the first day", o.correct(c, 100, 0, 0, 5, 0), 1);
        d.due("the last item, from the last day", o.correct(c, 100, 1, 1, 5, 10949), 1);
        d.due("the last item of the whole of a part", o.correct(part, 100, 1, 0, 5, 0), 1);
        d.due("on a day", d.owed(c, 10948), 25);
        d.due("on the last day", d.owed(c, 10949), 10);
        d.due("of the part", d.owed(part, 100), 7);
    }

    private static void correctedSince() {
        check.sentence("CORRECTED (AMOUNT or VALUE of an ITEM, from a day on: of several the one from the latest day"
                + " not behind the day that is asked for, of these the one told last; in this case alone),");
        Desk d = car();
        Office o = d.office;
        int c = d.claim(THIRD, 100, 1000, 0);
        int other = o.notify(0, NONE, 0, 100);
        o.correct(c, 110, 0, 0, 2000, 130);
        o.correct(c, 110, 0, 0, 3000, 120);
        o.correct(c, 110, 0, 0, 4000, 90);
        int[] days = {100, 109, 110, 119, 120, 129, 130, 10949};
        long[] due = {1000, 1000, 4000, 4000, 3000, 3000, 2000, 2000};
        for (int i = 0; i < days.length; i++) {
            d.due("on day " + days[i], d.owed(c, days[i]), due[i]);
            d.due("in this case alone, day " + days[i], d.owed(other, days[i]), 1000);
        }
        // told on a later day: it does not count ahead of that, though it is from a day ahead of it
        o.correct(c, 140, 0, 0, 5000, 131);
        d.due("ahead of its telling", d.owed(c, 139), 2000);
        d.due("on the day of its telling", d.owed(c, 140), 5000);
        d.due("as KNOWN before", o.owed(c, 140, o.count(4) - 1), 2000);
        // VALUE is another thing
        o.correct(c, 140, 0, 1, 7, 0);
        d.due("of a THIRD the VALUE does not count", d.owed(c, 140), 5000);
    }

    private static void correctedToldLast() {
        check.sentence("CORRECTED (AMOUNT or VALUE of an ITEM, from a day on: of several the one from the latest day"
                + " not behind the day that is asked for, of these the one told last; in this case alone),");
        Desk d = car();
        Office o = d.office;
        int c = d.claim(FIRE, 100, 1000, 9000);
        o.correct(c, 100, 0, 0, 2000, 100);
        o.correct(c, 100, 0, 0, 0, 100);
        d.due("the one told last, though it is 0", d.owed(c, 100), 0);
        o.correct(c, 100, 0, 0, 5000, 100);
        o.correct(c, 100, 0, 0, 4000, 99);
        d.due("one told later, from an earlier day", d.owed(c, 100), 5000);
        o.correct(c, 100, 0, 1, 300, 0);
        d.due("the VALUE, from day 0", d.owed(c, 100), 300);
        o.correct(c, 100, 0, 1, 400, 0);
        d.due("the VALUE told last", d.owed(c, 100), 400);
        o.correct(c, 100, 0, 1, MOST, 0);
        d.due("the AMOUNT then", d.owed(c, 100), 5000);
    }

    private static void sharedWith() {
        check.sentence("SHARED: another INSURER (1 .. 5) would owe so much (perhaps 0): 1.");
        Desk d = car();
        Office o = d.office;
        int c = d.claim(FIRE, 100, 1000, 1000);
        for (int insurer : new int[] {LOWEST, -1, 0, 6, HIGHEST}) {
            d.due("insurer " + insurer, o.share(c, 100, insurer, 5), BAD);
        }
        d.due("facts", o.of(c, 5), 0);
        d.due("insurer 1 owes nothing", o.share(c, 100, 1, 0), 1);
        d.due("insurer 5 owes as much", o.share(c, 100, 5, 1000), 1);
        d.dueRows(c, 100, "500 f0 | 0 0 1000 | 7 2 -500");
        check.sentence("SHARED (another INSURER would owe so much alone), has SALVAGE, RECOURSE.");
        d.due("told anew: nothing any more", o.share(c, 101, 5, 0), 1);
        d.dueRows(c, 100, "500 f0 | 0 0 1000 | 7 2 -500");
        d.dueRows(c, 101, "1000 f0 | 0 0 1000");
    }

    // ---- promise 15

    private static void payingWhatIsOwed() {
        check.sentence("PAID: 1. BAD: also cents 0. MUCH: more than is owed on that day as KNOWN now"
                + " (or there is a FINDING), or of s more than is LEFT (if there is year).");
        Desk d = car();
        Office o = d.office;
        int c = d.claim(FIRE, 100, 1000, 1000);
        d.due("nothing", o.pay(c, 100, 0), BAD);
        d.due("BAD ahead of DAY", o.pay(c, 99, 0), BAD);
        d.due("a cent more than is owed", o.pay(c, 100, 1001), MUCH);
        d.due("facts", o.of(c, 5), 0);
        d.due("DAY ahead of MUCH", o.pay(c, 99, 1001), DAY);
        d.due("a cent", o.pay(c, 100, 1), 1);
        d.due("a cent more than is owed then", o.pay(c, 100, 1000), MUCH);
        d.due("all of it", o.pay(c, 100, 999), 1);
        d.due("a cent more", o.pay(c, 100, 1), MUCH);
        d.due("used", o.used(0, 0, o.count(4)), 1000);
        // on that day: what is CORRECTED from a later day on does not count yet
        o.correct(c, 100, 0, 0, 1100, 120);
        o.correct(c, 100, 0, 1, 1100, 0);
        d.due("the day before", o.pay(c, 119, 1), MUCH);
        d.due("on the day, one too much", o.pay(c, 120, 101), MUCH);
        d.due("on the day", o.pay(c, 120, 100), 1);
        // less than nothing is owed
        o.salvage(c, 120, 500);
        d.due("owed", d.owed(c, 120), -500);
        d.due("a cent of less than nothing", o.pay(c, 120, 1), MUCH);
        d.due("no findings", o.count(10), 0);
        // OUT: nothing is owed
        int out = d.claim(WATER, 120, 1000, 1000);
        d.due("a cent of what is OUT", o.pay(out, 120, 1), MUCH);
    }

    private static void payingWithFindings() {
        check.sentence("PAID: 1. BAD: also cents 0. MUCH: more than is owed on that day as KNOWN now"
                + " (or there is a FINDING), or of s more than is LEFT (if there is year).");
        Desk d = Desk.with(check, LIABILITY, 0);
        Office o = d.office;
        int c = d.claim(FIRE, 100, 1000, 1000);
        int outside = d.claim(THIRD, 1095, 1000, 1000);
        d.due("NOT THAT KIND", o.pay(c, 100, 1), MUCH);
        d.due("it is counted", o.count(10), 1);
        d.due("OUTSIDE", o.pay(outside, 1095, 1), MUCH);
        d.due("it is counted", o.count(10), 2);
        d.due("BAD is not worked", o.pay(outside, 1095, 0), BAD);
        d.due("DAY is not worked", o.pay(outside, 1094, 1), DAY);
        o.close(c, 100);
        d.due("STATE is not worked", o.pay(c, 100, 1), STATE);
        d.due("none of them is counted", o.count(10), 2);
        d.due("it is not LOOKED AT", o.finding(), 0);
        // NOUGHT, with something owed by then: the VALUES are 0
        d = car();
        o = d.office;
        d.clauses(0, "average;");
        c = d.claim(THIRD, 100, 1000, 0);
        d.due("NOUGHT", o.pay(c, 100, 1), MUCH);
        d.due("it is counted", o.count(10), 1);
        d.clauses(0, "");
        d.due("without it", o.pay(c, 100, 1), 1);
    }

    private static void payingOfInterest() {
        check.sentence("What is PAID has a part of INTEREST: the lesser of it and row 11 (as KNOWN then, on its day)"
                + " less what was PAID of INTEREST before (0, if that is below 0); the rest is PAID of s.");
        // 36500 at 1000 of 10000 a year: 10 cents a day
        int[] pays = {1, 99, 100, 101, 36600};
        long[] used = {0, 0, 0, 1, 36500};
        for (int i = 0; i < pays.length; i++) {
            Desk d = car();
            d.clauses(0, "interest 1000;");
            int c = d.claim(FIRE, 100, 36500, 36500);
            d.due("pay " + pays[i], d.office.pay(c, 110, pays[i]), 1);
            d.due("of s", d.office.used(0, 0, (int) d.now()), used[i]);
            d.due("recourse of one more", d.office.recourse(c, 110, used[i] + 1), MUCH);
            d.due("recourse of it", d.office.recourse(c, 110, used[i]), 1);
        }
        // what was PAID of it before: 100 of 100, then 10 a day
        Desk d = car();
        Office o = d.office;
        d.clauses(0, "interest 1000;");
        int c = d.claim(FIRE, 100, 36500, 36500);
        o.pay(c, 110, 100);
        o.pay(c, 110, 7);
        d.due("of s, as all INTEREST was PAID", o.used(0, 0, o.count(4)), 7);
        o.pay(c, 111, 9);
        d.due("of INTEREST again", o.used(0, 0, o.count(4)), 7);
        o.pay(c, 111, 2);
        d.due("the last cent of it, and one of s", o.used(0, 0, o.count(4)), 8);
        // INTEREST becomes less than was PAID of it: 0, not less
        d.clauses(0, "interest 1;");
        o.pay(c, 111, 5);
        d.due("all of it is PAID of s", o.used(0, 0, o.count(4)), 13);
        d.due("as KNOWN before", o.used(0, 0, o.count(4) - 1), 8);
    }

    private static void payingWithinTheYear() {
        check.sentence("PAID: 1. BAD: also cents 0. MUCH: more than is owed on that day as KNOWN now"
                + " (or there is a FINDING), or of s more than is LEFT (if there is year).");
        // the later LOSS is paid first; by loss it is laid behind, but what it used is not LEFT
        Desk d = car();
        Office o = d.office;
        d.clauses(0, "year 1000; by loss; interest 1000;");
        o.item(o.loss(FIRE, 20), 0, 900, 900);
        o.item(o.loss(FIRE, 10), 0, 36500, 36500);
        o.notify(0, NONE, 0, 20);
        d.due("the later loss", o.pay(0, 20, 900), 1);
        o.notify(0, NONE, 1, 20);
        d.due("left", o.left(0, 0, o.count(4)), 100);
        d.due("owed", d.owed(1, 20), 1000);
        d.due("of s one more than is LEFT", o.pay(1, 20, 101), MUCH);
        d.due("facts", o.of(1, 5), 0);
        // INTEREST is not of s: 1000 for 365 days at 1000 of 10000 a year are 100
        d.due("with INTEREST, one more", o.pay(1, 385, 201), MUCH);
        d.due("with INTEREST, all that is LEFT", o.pay(1, 385, 200), 1);
        d.due("left", o.left(0, 0, o.count(4)), 0);
        d.due("nothing is LEFT", o.pay(1, 385, 1), MUCH);
        d.due("but INTEREST is", o.pay(1, 750, 50), 1);
        d.due("left", o.left(0, 0, o.count(4)), 0);
        // without year nothing bounds it
        d.clauses(0, "");
        d.due("without year", o.pay(1, 750, 36500 - 250), 1);
    }

    private static void payingInOtherYears() {
        check.sentence("USED of a COVER in a YEAR: what was PAID of s in all its cases of that YEAR (of the LOSS),"
                + " less RECOURSE; LEFT: year less that.");
        Desk d = car();
        Office o = d.office;
        d.clauses(0, "year 1000;");
        int first = d.claim(FIRE, 364, 700, 700);
        int second = d.claim(FIRE, 365, 800, 800);
        d.due("of YEAR 0", o.pay(first, 400, 700), 1);
        d.due("of YEAR 1", o.pay(second, 400, 800), 1);
        int now = o.count(4);
        d.due("used of YEAR 0", o.used(0, 0, now), 700);
        d.due("used of YEAR 1", o.used(0, 1, now), 800);
        d.due("left of YEAR 0", o.left(0, 0, now), 300);
        d.due("left of YEAR 2", o.left(0, 2, now), 1000);
        o.recourse(first, 400, 250);
        d.due("less RECOURSE", o.used(0, 0, now + 1), 450);
        d.due("left then", o.left(0, 0, now + 1), 550);
        d.due("not yet", o.left(0, 0, now), 300);
        d.clauses(0, "year 449;");
        d.due("less than nothing", o.left(0, 0, o.count(4)), -1);
        d.clauses(0, "year 0;");
        d.due("year 0", o.left(0, 0, o.count(4)), -450);
    }

    // ---- promises 20, 21

    private static void salvage() {
        check.sentence("SALVAGE: 1.");
        Desk d = car();
        Office o = d.office;
        int c = d.claim(FIRE, 100, 1000, 1000);
        d.due("nothing", o.salvage(c, 100, 0), 1);
        d.dueRows(c, 100, "1000 f0 | 0 0 1000");
        d.due("some", o.salvage(c, 110, 999), 1);
        d.dueRows(c, 109, "1000 f0 | 0 0 1000");
        d.dueRows(c, 110, "1 f0 | 0 0 1000 | 10 0 -999");
        d.due("all", o.salvage(c, 110, 1), 1);
        d.dueRows(c, 110, "0 f0 | 0 0 1000 | 10 0 -1000");
        d.due("more than all", o.salvage(c, 110, MOST), 1);
        d.dueRows(c, 110, "0 f0 | 0 0 1000 | 10 0 -1000");
    }

    private static void recourse() {
        check.sentence("RECOURSE: 1. MUCH: all of the case would be more than was PAID of s.");
        Desk d = car();
        Office o = d.office;
        int c = d.claim(FIRE, 100, 1000, 1000);
        int other = d.claim(FIRE, 100, 1000, 1000);
        o.pay(other, 100, 1000);
        d.due("of nothing PAID", o.recourse(c, 100, 1), MUCH);
        d.due("nothing of it", o.recourse(c, 100, 0), 1);
        o.pay(c, 200, 600);
        d.due("one more than was PAID", o.recourse(c, 200, 601), MUCH);
        d.due("some", o.recourse(c, 200, 599), 1);
        d.due("two more", o.recourse(c, 200, 2), MUCH);
        d.due("facts", o.of(c, 5), 3);
        d.due("the last one", o.recourse(c, 200, 1), 1);
        d.due("one more", o.recourse(c, 200, 1), MUCH);
        d.due("nothing more", o.recourse(c, 200, 0), 1);
        o.pay(c, 300, 400);
        d.due("more was PAID since", o.recourse(c, 300, 400), 1);
        d.due("used", o.used(0, 0, o.count(4)), 1000);
        d.due("owed stays", d.owed(c, 300), 0);
    }
}
