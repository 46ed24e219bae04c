/** Part 5 of the document with promises 25 to 30: rows at their edges, FINDINGS, and what is LOOKED AT. */
public final class RowsTest {
    private static final int NONE = -1, BAD = -2, STATE = -3, DAY = -4, MUCH = -6, FULL = -7;
    private static final int LOWEST = Integer.MIN_VALUE, HIGHEST = Integer.MAX_VALUE;
    private static final long NO_ANSWER = ClaimsOffice.NO_ANSWER;
    private static final long MOST = 1000000000000L;
    private static final int FIRE = 0, WATER = 1, THEFT = 2, THIRD = 4;
    private static final int DWELLING = 0, CAR = 2, LIABILITY = 3, TRANSPORT = 5, BUNDLE = 6;
    private static final Check check = new Check();

    public static void main(String[] args) {
        factsThatCount();
        covers();
        coversOfBundles();
        sums();
        worth();
        outOfTheTerm();
        outByClauses();
        waits();
        averages();
        averagesOfValues();
        self();
        ownAndLimit();
        shared();
        sharesByAlone();
        sharesByRounds();
        sharesByRanks();
        ownYearAndYear();
        casesThatAreLaid();
        casesThatBringNothing();
        orders();
        salvage();
        interest();
        interestOfWhatIsPaid();
        paid();
        rowsThatAreTold();
        findings();
        firstFinding();
        findingsThatAreCounted();
        findings2500();
        findings2500WhileLaid();
        lookingAt();
        rowsAndCents();
        fewerRows();
        trace200();
        saying();
        check.done();
    }

    private static Desk car() {
        return Desk.with(check, CAR, 0);
    }

    private static Desk carWith(String clauses) {
        Desk d = car();
        d.clauses(0, clauses);
        return d;
    }

    private static void factsThatCount() {
        check.sentence("WHAT IS OWED of a case on a day as KNOWN at a moment: rows, each of a code, an argument and cents;"
                + " it is their sum (s is the sum so far). FACTS that count are KNOWN and not behind that day.");
        Desk d = car();
        Office o = d.office;
        int c = d.claim(FIRE, 100, 1000, 1000);
        int now = o.count(4);
        o.pay(c, 110, 1);
        o.salvage(c, 120, 20);
        o.correct(c, 130, 0, 0, 700, 0);
        o.share(c, 140, 1, 700);
        long[] none = {1000, 1000, 1000, 1000, 1000};
        int[] days = {109, 110, 120, 130, 140};
        long[][] due = {none, {1000, 999, 999, 999, 999}, {1000, 999, 979, 979, 979}, {1000, 999, 979, 679, 679},
            {1000, 999, 979, 679, 329}};
        for (int known = 0; known <= 4; known++) {
            for (int i = 0; i < days.length; i++) {
                d.due("on day " + days[i] + " with " + known + " facts", o.owed(c, days[i], now + known), due[known][i]);
            }
        }
    }

    // ---- THE COVER, THE SUM

    private static void covers() {
        check.sentence("THE COVER is the POLICY, or what is in the PLACE of the BUNDLE as KNOWN then"
                + " (NOTHING, if nothing is); of a BUNDLE there likewise what is in its PLACE 0, and so on.");
        Desk d = car();
        Office o = d.office;
        o.policy(BUNDLE, 0, 0, 1094);
        o.item(o.loss(FIRE, 5), 0, 100, 100);
        for (int place = 0; place <= 3; place++) {
            o.notify(1, place, 0, 5);
        }
        int now = o.count(4);
        o.bundle(1, 2, 0);
        for (int place = 0; place <= 3; place++) {
            d.dueRows(place, 5, place == 2 ? "100 f0 | 0 0 100" : "none f1");
            d.due("as KNOWN before", o.owed(place, 5, now), NO_ANSWER);
            d.due("NOTHING", o.finding(), 1);
        }
        o.bundle(1, 2, NONE);
        d.dueRows(2, 5, "none f1");
        d.due("as KNOWN between", o.owed(2, 5, now + 1), 100);
    }

    private static void coversOfBundles() {
        check.sentence("THE COVER is the POLICY, or what is in the PLACE of the BUNDLE as KNOWN then"
                + " (NOTHING, if nothing is); of a BUNDLE there likewise what is in its PLACE 0, and so on.");
        // BUNDLE 1 has BUNDLE 2 in its PLACE 3, that one has the CAR in 0 and a CAR without a SUM in 3
        Desk d = car();
        Office o = d.office;
        o.policy(BUNDLE, 0, 0, 0);
        o.policy(BUNDLE, 0, 0, 0);
        o.policy(CAR, 0, 0, 1094);
        o.item(o.loss(FIRE, 5), 0, 100, 100);
        o.bundle(1, 3, 2);
        o.bundle(2, 3, 3);
        o.notify(1, 3, 0, 5);
        d.dueRows(0, 5, "none f1");
        o.bundle(2, 0, 0);
        d.dueRows(0, 5, "100 f0 | 0 0 100");
        o.bundle(1, 3, 0);
        d.dueRows(0, 5, "100 f0 | 0 0 100");
        o.bundle(1, 3, NONE);
        d.dueRows(0, 5, "none f1");
    }

    private static void sums() {
        check.sentence("THE SUM is that of its PERIOD of the YEAR of the LOSS"
                + " (OUTSIDE: it is no YEAR of it; NOTHING: none was told).");
        Desk d = new Desk(check);
        Office o = d.office;
        o.person();
        o.policy(DWELLING, 0, 400, 800);
        o.period(0, 1, 70);
        int[] days = {364, 365, 399, 400, 729, 730, 800, 801, 1094, 1095};
        String[] due = {"none f3", "0 f0 | 0 0 100 | 1 -2 -100", "0 f0 | 0 0 100 | 1 -2 -100", "70 f0 | 0 0 100 | 3 0 -30",
            "70 f0 | 0 0 100 | 3 0 -30", "none f1", "none f1", "none f1", "none f1", "none f3"};
        for (int i = 0; i < days.length; i++) {
            d.dueRows(d.claim(FIRE, days[i], 100, 100), days[i], due[i]);
        }
        o.period(0, 2, 60);
        // the YEAR of the LOSS, not that of the NOTICE or of the day
        d.due("of the YEAR 1", d.owed(3, 2000), 70);
        d.due("of the YEAR 2", d.owed(6, 2000), 60);
        d.dueRows(7, 2000, "0 f0 | 0 0 100 | 1 -2 -100");
    }

    // ---- rows 0 to 2

    private static void worth() {
        check.sentence("0 WORTH of the LOSS, n by item (10^12 without).");
        Desk d = car();
        int c = d.claim(FIRE, 5, MOST, MOST);
        int none = d.office.notify(0, NONE, d.office.loss(FIRE, 5), 5);
        d.dueRows(c, 5, MOST + " f0 | 0 0 " + MOST);
        d.dueRows(none, 5, "0 f0 | 0 0 0");
        d.clauses(0, "item 999999999;");
        d.dueRows(c, 5, "999999999 f0 | 0 0 999999999");
        d.clauses(0, "item 0;");
        d.dueRows(c, 5, "0 f0 | 0 0 0");
    }

    private static void outOfTheTerm() {
        check.sentence("1 OUT: less s, and no more rows: the day of the LOSS is not in the TERM (argument -2);");
        Desk d = new Desk(check);
        Office o = d.office;
        o.person();
        o.policy(CAR, 0, 100, 200);
        o.period(0, 0, 5);
        d.clauses(0, "in any; own loss 5; interest 5000;");
        int[] days = {99, 100, 200, 201};
        for (int day : days) {
            int c = d.claim(FIRE, day, 70, 70);
            boolean in = day == 100 || day == 200;
            d.dueRows(c, day, in ? "65 f0 | 0 0 70 | 5 0 -5" : "0 f0 | 0 0 70 | 1 -2 -70");
            if (!in) {
                // no more rows: not even those of SALVAGE, INTEREST
                o.salvage(c, day, 5);
                d.dueRows(c, day + 300, "0 f0 | 0 0 70 | 1 -2 -70");
            }
        }
        // a TERM of one day
        d = new Desk(check);
        d.office.person();
        d.office.policy(CAR, 0, 100, 100);
        d.office.period(0, 0, 5);
        d.dueRows(d.claim(FIRE, 99, 70, 70), 200, "0 f0 | 0 0 70 | 1 -2 -70");
        d.dueRows(d.claim(FIRE, 100, 70, 70), 200, "70 f0 | 0 0 70");
        d.dueRows(d.claim(FIRE, 101, 70, 70), 200, "0 f0 | 0 0 70 | 1 -2 -70");
    }

    private static void outByClauses() {
        check.sentence("or it is not covered: as COVERS says (argument -1), then each in and out clause, in order,"
                + " that names a KIND that the LOSS IS (any: not asked) and whose COND (asked then) does not hold,"
                + " makes it covered, or not (argument: the number of the last such one among all CLAUSES, from 0).");
        // WATER is not covered by a CAR, FIRE is
        String[] texts = {"", "in water;", "in fire;", "out water;", "in water; out water;", "out water; in water;",
            "in any;", "in any; out any;", "item 900; out any; average;", "in water unless items 0;",
            "in any; out water unless items 0;", "in any; out water unless items 1;",
            "item 900;".repeat(29) + "out water;", "in any; out fire;", "out fire; in theft; out storm unless is any;",
            "out any unless is fire; in any unless is water; out any unless is water;"};
        int[] water = {-1, -9, -1, 0, 1, -9, -9, 1, 1, -1, -9, 1, 29, -9, -1, 0};
        for (int i = 0; i < texts.length; i++) {
            Desk d = carWith(texts[i]);
            d.dueRows(d.claim(WATER, 5, 100, 100), 5, water[i] == -9 ? "100 f0 | 0 0 100" : "0 f0 | 0 0 100 | 1 " + water[i]
                    + " -100");
        }
        Desk d = carWith("out fire;");
        d.dueRows(d.claim(FIRE, 5, 100, 100), 5, "0 f0 | 0 0 100 | 1 0 -100");
        d = carWith("own loss 100; out fire;");
        d.office.pay(d.claim(FIRE, 5, 0, 100), 5, 1);
        d.dueRows(0, 5, "0 f0 | 0 0 0 | 1 1 0");
    }

    private static void waits() {
        check.sentence("2 WAIT: less s, and no more rows: the LOSS is ahead of the first day and the greater of WAITS"
                + " and wait (argument: that greater one, days).");
        // a TRANSPORT waits 2 days for WATER
        int[] waits = {0, 1, 2, 3, 10};
        for (int wait : waits) {
            int greater = Math.max(wait, 2);
            Desk d = new Desk(check);
            d.office.person();
            d.office.policy(TRANSPORT, 0, 100, 200);
            d.office.period(0, 0, 5);
            d.clauses(0, "wait " + wait + "; own loss 1;");
            int early = d.claim(WATER, 100 + greater - 1, 100, 100);
            int late = d.claim(WATER, 100 + greater, 100, 100);
            d.dueRows(early, 200, "0 f0 | 0 0 100 | 2 " + greater + " -100");
            d.dueRows(late, 200, "94 f0 | 0 0 100 | 4 5 -5 | 5 0 -1");
        }
        // no wait at all on the first day, and a wait behind all days
        Desk d = carWith("wait 0;");
        d.dueRows(d.claim(FIRE, 0, 100, 100), 0, "100 f0 | 0 0 100");
        d = carWith("wait 1;");
        d.dueRows(d.claim(FIRE, 0, 100, 100), 0, "0 f0 | 0 0 100 | 2 1 -100");
        d.dueRows(d.claim(FIRE, 1, 100, 100), 1, "100 f0 | 0 0 100");
        d.clauses(0, "wait 999999999;");
        d.dueRows(1, 1, "0 f0 | 0 0 100 | 2 999999999 -100");
        // of nothing: the row is told all the same
        d.dueRows(d.claim(FIRE, 1, 0, 100), 1, "0 f0 | 0 0 0 | 2 999999999 0");
    }

    // ---- rows 3 to 6

    private static void averages() {
        check.sentence("3 AVERAGE, if AVERAGES, or there is average: s times THE SUM, by the sum of VALUES"
                + " (as CORRECTED; of a PART those of its WHOLE, not by HUNDREDTHS; NOUGHT, if that is 0),"
                + " is what stays, if that is less.");
        long[][] sumValueDue = {{999, 1000, 499}, {1000, 1000, 500}, {1001, 1000, 500}, {0, 1000, 0}, {1, 1000, 0},
            {2, 1000, 1}, {1, 500, 1}, {MOST / 1000, 1000, 500}};
        for (long[] s : sumValueDue) {
            for (int kind : new int[] {DWELLING, CAR}) {
                Desk d = Desk.with(check, kind, s[0]);
                d.clauses(0, kind == CAR ? "average;" : "");
                d.dueRows(d.claim(FIRE, 5, 500, s[1]), 5, s[2] + " f0 | 0 0 500"
                        + (s[2] == 500 ? "" : " | 3 0 " + (s[2] - 500)));
            }
        }
        Desk d = Desk.with(check, CAR, 1);
        d.dueRows(d.claim(FIRE, 5, 500, 1000), 5, "500 f0 | 0 0 500");
    }

    private static void averagesOfValues() {
        check.sentence("3 AVERAGE, if AVERAGES, or there is average: s times THE SUM, by the sum of VALUES"
                + " (as CORRECTED; of a PART those of its WHOLE, not by HUNDREDTHS; NOUGHT, if that is 0),"
                + " is what stays, if that is less.");
        Desk d = Desk.with(check, DWELLING, 500);
        Office o = d.office;
        o.loss(FIRE, 5);
        o.item(0, 0, 600, 600);
        o.item(0, 0, 0, 400);
        o.part(0, 50);
        int c = o.notify(0, NONE, 1, 5);
        d.dueRows(c, 5, "150 f0 | 0 0 300 | 3 0 -150");
        o.correct(c, 6, 1, 1, 900, 8);
        d.dueRows(c, 7, "150 f0 | 0 0 300 | 3 0 -150");
        d.dueRows(c, 8, "100 f0 | 0 0 300 | 3 0 -200");
        o.correct(c, 9, 0, 1, 0, 0);
        o.correct(c, 9, 1, 1, 1, 9);
        d.dueRows(c, 9, "0 f0 | 0 0 0");
        o.correct(c, 10, 1, 1, 0, 9);
        d.dueRows(c, 10, "none f4 | 0 0 0");
        // without an ITEM there are no VALUES
        d = Desk.with(check, DWELLING, 500);
        d.dueRows(d.office.notify(0, NONE, d.office.loss(FIRE, 5), 5), 5, "none f4 | 0 0 0");
        // where it is OUT or WAITs nothing is divided
        d.dueRows(d.office.notify(0, NONE, d.office.loss(THEFT, 5), 5), 5, "0 f0 | 0 0 0 | 1 -1 0");
        d.clauses(0, "wait 6;");
        d.dueRows(0, 5, "0 f0 | 0 0 0 | 2 6 0");
        d.clauses(0, "wait 5;");
        d.dueRows(0, 5, "none f4 | 0 0 0");
    }

    private static void self() {
        check.sentence("4 SELF (argument): less s times that, by 100. 5 OWN: less own loss; or s, if that is less."
                + " 6 LIMIT: less what is beyond loss.");
        long[][] worthSelf = {{0, 0}, {1, 0}, {19, 0}, {20, 1}, {39, 1}, {40, 2}, {199, 9}};
        for (long[] w : worthSelf) {
            Desk d = Desk.with(check, TRANSPORT, 0);
            d.dueRows(d.claim(FIRE, 5, w[0], 500), 5, w[0] - w[1] + " f0 | 0 0 " + w[0]
                    + (w[1] == 0 ? "" : " | 4 5 " + -w[1]));
        }
        // behind row 3: of what stays
        Desk d = Desk.with(check, TRANSPORT, 100);
        d.clauses(0, "average;");
        d.dueRows(d.claim(FIRE, 5, 200, 200), 5, "95 f0 | 0 0 200 | 3 0 -100 | 4 5 -5");
    }

    private static void ownAndLimit() {
        check.sentence("4 SELF (argument): less s times that, by 100. 5 OWN: less own loss; or s, if that is less."
                + " 6 LIMIT: less what is beyond loss.");
        String[] texts = {"own loss 0;", "own loss 1;", "own loss 99;", "own loss 100;", "own loss 101;", "loss 101;", "loss 100;",
            "loss 99;", "loss 0;", "own loss 1; loss 99;", "own loss 1; loss 98;", "loss 999999999; own loss 999999999;"};
        String[] due = {"100 f0 | 0 0 100", "99 f0 | 0 0 100 | 5 0 -1", "1 f0 | 0 0 100 | 5 0 -99",
            "0 f0 | 0 0 100 | 5 0 -100", "0 f0 | 0 0 100 | 5 0 -100", "100 f0 | 0 0 100", "100 f0 | 0 0 100",
            "99 f0 | 0 0 100 | 6 0 -1", "0 f0 | 0 0 100 | 6 0 -100", "99 f0 | 0 0 100 | 5 0 -1",
            "98 f0 | 0 0 100 | 5 0 -1 | 6 0 -1", "0 f0 | 0 0 100 | 5 0 -100"};
        for (int i = 0; i < texts.length; i++) {
            Desk d = carWith(texts[i]);
            d.dueRows(d.claim(FIRE, 5, 100, 100), 5, due[i]);
        }
        // the greatest WORTH is not beyond a LIMIT that is not there
        Desk d = car();
        d.office.loss(FIRE, 5);
        for (int i = 0; i < 6; i++) {
            d.office.item(0, 0, MOST, MOST);
        }
        d.dueRows(d.office.notify(0, NONE, 0, 5), 5, 6 * MOST + " f0 | 0 0 " + 6 * MOST);
    }

    // ---- row 7

    private static Desk sharing(int rule, long worth, long... alone) {
        Desk d = car();
        d.office.shareRule(0, rule);
        d.claim(FIRE, 20, worth, worth);
        for (int i = 0; i < alone.length; i++) {
            if (alone[i] >= 0) {
                d.office.share(0, 20, i + 1, alone[i]);
            }
        }
        return d;
    }

    private static void shareDue(Desk d, int rule, long worth, int others, long share) {
        d.dueRows(0, 20, share + " f0 | 0 0 " + worth + (share == worth ? "" : " | 7 " + others + " " + (share - worth)));
        d.due("rule " + rule, d.office.finding(), 0);
    }

    private static void shared() {
        check.sentence("7 SHARED, if SHARED was told of other INSURERS (argument: of how many; of 0, too):"
                + " less what is not this office's share. ALONE this office owes s, the others what was told last;"
                + " T is the lesser of WORTH (row 0) and the sum of all ALONE.");
        for (int rule = 0; rule <= 2; rule++) {
            // told of none: no row, and no division
            shareDue(sharing(rule, 0), rule, 0, 0, 0);
            shareDue(sharing(rule, 100), rule, 100, 0, 100);
            // told of 0: it counts among how many
            shareDue(sharing(rule, 100, 0), rule, 100, 1, 100);
            shareDue(sharing(rule, 100, 0, 0, 0, 0, 100), rule, 100, 5, rule == 2 ? 100 : 50);
            shareDue(sharing(rule, 100, -1, -1, -1, -1, 100), rule, 100, 1, rule == 2 ? 100 : 50);
            // T is the sum of ALONE where that is less: each has its own
            Desk d = sharing(rule, 100, 30);
            d.clauses(0, "loss 69;");
            d.dueRows(0, 20, "69 f0 | 0 0 100 | 6 0 -31");
            d.clauses(0, "loss 70;");
            d.dueRows(0, 20, "70 f0 | 0 0 100 | 6 0 -30");
            // one more than WORTH: by 0 71 and 30 of 101, 70.3 and 29.7; by 1 70 of 71
            d.clauses(0, "loss 71;");
            long share = rule == 0 ? 71 : rule == 1 ? 70 : 71;
            d.dueRows(0, 20, share + " f0 | 0 0 100 | 6 0 -29" + (share == 71 ? "" : " | 7 1 -1"));
            // what was told last
            d = sharing(rule, 100, 100);
            d.office.share(0, 20, 1, 50);
            d.office.share(0, 20, 1, 0);
            shareDue(d, rule, 100, 1, 100);
        }
    }

    private static void sharesByAlone() {
        check.sentence("By the RULE of THE COVER: 0: each T times its ALONE, by that sum (NOUGHT, if that is 0);"
                + " what is left of T goes by cents, by RANKS (of one RANK by numbers), to each whose share is below"
                + " its ALONE, round and round.");
        // 100 by six equal ones: 16 and four cents; this office has the first of them, with RANK 4 none
        Desk d = sharing(0, 100, 100, 100, 100, 100, 100);
        shareDue(d, 0, 100, 5, 17);
        int[] ranks = {3, 4, 5, 9};
        long[] due = {17, 17, 16, 16};
        for (int i = 0; i < ranks.length; i++) {
            // of one RANK by numbers: this office is ahead of INSURER 3 with RANK 3, of 4 with RANK 4
            d.office.rank(0, ranks[i]);
            shareDue(d, 0, 100, 5, due[i]);
        }
        d.office.rank(0, 4);
        d.office.rank(5, 0);
        shareDue(d, 0, 100, 5, 16);
        // all have what they would owe: no cent is left
        shareDue(sharing(0, 7, 0, 0), 0, 7, 2, 7);
        // one whose share is its ALONE gets no cent, though its RANK is first: 10 by 10 : 0 : 10 : 10
        d = sharing(0, 10, 0, 10, 10);
        d.office.rank(0, 2);
        shareDue(d, 0, 10, 3, 4);
        d.office.rank(0, 3);
        shareDue(d, 0, 10, 3, 3);
        // NOUGHT: nobody owes anything
        d = sharing(0, 0, 0);
        d.dueRows(0, 20, "none f4 | 0 0 0");
        d.office.share(0, 20, 2, 1);
        d.dueRows(0, 20, "0 f0 | 0 0 0");
        // a cent in all
        shareDue(sharing(0, 1, 1), 0, 1, 1, 1);
        d = sharing(0, 1, 1);
        d.office.rank(0, 2);
        shareDue(d, 0, 1, 1, 0);
    }

    private static void sharesByRounds() {
        check.sentence("1: as long as something of T is left and some have less than ALONE: each of these gets the lesser"
                + " of what it lacks and what is left as the round begins, by how many they are; when that is 0,"
                + " they get a cent each by RANKS, as far as it goes.");
        // 100 by 100 : 1 : 2 : 3 : 4 : 5: all others have theirs, this office 85
        shareDue(sharing(1, 100, 1, 2, 3, 4, 5), 1, 100, 5, 85);
        // six of 100: 16 each, then four cents
        Desk d = sharing(1, 100, 100, 100, 100, 100, 100);
        shareDue(d, 1, 100, 5, 17);
        d.office.rank(0, 4);
        shareDue(d, 1, 100, 5, 17);
        d.office.rank(0, 5);
        shareDue(d, 1, 100, 5, 16);
        // 5 by six: no round but cents
        d = sharing(1, 5, 5, 5, 5, 5, 5);
        shareDue(d, 1, 5, 5, 1);
        d.office.rank(0, 9);
        shareDue(d, 1, 5, 5, 0);
        // 6 by six: a cent each
        shareDue(sharing(1, 6, 6, 6, 6, 6, 6), 1, 6, 5, 1);
        // rounds of 10, 20, 30: 90 by 90 : 10 : 30: 30, 10, 30, then 20 for this office
        shareDue(sharing(1, 90, 10, 30), 1, 90, 2, 50);
        // a round for each of them: 1000000 each, then 120000, 15000, 2500, 750, and 550 for this office
        shareDue(sharing(1, 6000000, 400000, 1060000, 1127500, 1136000, 1137700), 1, 6000000, 5, 1138800);
        Desk last = sharing(1, 6000000, 400000, 1060000, 1127500, 1136000, 6000000);
        // here two are left for the 1500 behind the fourth round
        shareDue(last, 1, 6000000, 5, 1138250);
        // those who owe nothing get nothing; nothing to share at all
        shareDue(sharing(1, 9, 0, 0, 9), 1, 9, 3, 5);
        shareDue(sharing(1, 0, 5), 1, 0, 1, 0);
        shareDue(sharing(1, 0, 0), 1, 0, 1, 0);
        // the greatest
        shareDue(sharing(1, MOST, MOST, MOST, MOST, MOST, MOST), 1, MOST, 5, MOST / 6 + 1);
    }

    private static void sharesByRanks() {
        check.sentence("2: by RANKS each its ALONE, as far as T goes. (Rules 0 and 2: this office and those told of; 1 too.)");
        Desk d = sharing(2, 100, 60, 39);
        int[] ranks = {0, 1, 2, 3, 9};
        long[] due = {100, 100, 40, 1, 1};
        for (int i = 0; i < ranks.length; i++) {
            d.office.rank(0, ranks[i]);
            shareDue(d, 2, 100, 2, due[i]);
        }
        d.office.share(0, 20, 2, 40);
        shareDue(d, 2, 100, 2, 0);
        d.office.share(0, 20, 2, 41);
        shareDue(d, 2, 100, 2, 0);
        // an INSURER of a lower RANK that was not told of gets nothing
        d.office.rank(5, 0);
        shareDue(d, 2, 100, 2, 0);
        shareDue(sharing(2, 0, 0), 2, 0, 1, 0);
        for (int rule = 0; rule <= 1; rule++) {
            d = sharing(rule, 100, 100);
            d.office.rank(5, 0);
            shareDue(d, rule, 100, 1, 50);
        }
    }

    // ---- rows 8, 9

    private static void ownYearAndYear() {
        check.sentence("8 OWN YEAR, 9 YEAR: the cases KNOWN, with a NOTICE not behind that day, of one COVER and one YEAR"
                + " of the LOSS, are laid in ORDER, each with its s behind row 7 (0 where it has a FINDING or is OUT"
                + " or WAITs): it gives up the lesser of that and what is left of own year;"
                + " then what is beyond what is left of year, of which it takes what stays.");
        String[] texts = {"own year 0;", "own year 99;", "own year 100;", "own year 101;", "own year 199;", "own year 200;",
            "own year 201;", "year 0;", "year 99;", "year 100;", "year 101;", "year 199;", "year 200;", "year 201;",
            "own year 50; year 100;", "own year 150; year 49;", "own year 150; year 50;", "year 999999999;"};
        long[] first = {100, 1, 0, 0, 0, 0, 0, 0, 99, 100, 100, 100, 100, 100, 50, 0, 0, 100};
        long[] second = {100, 100, 100, 99, 1, 0, 0, 0, 0, 0, 1, 99, 100, 100, 50, 49, 50, 100};
        for (int i = 0; i < texts.length; i++) {
            Desk d = carWith(texts[i]);
            d.claim(FIRE, 5, 100, 100);
            d.claim(FIRE, 5, 100, 100);
            d.due("the first with " + texts[i], d.owed(0, 5), first[i]);
            d.due("the second with " + texts[i], d.owed(1, 5), second[i]);
        }
        Desk d = carWith("own year 150; year 49;");
        d.claim(FIRE, 5, 100, 100);
        d.claim(FIRE, 5, 100, 100);
        d.claim(FIRE, 5, 100, 100);
        d.dueRows(0, 5, "0 f0 | 0 0 100 | 8 0 -100");
        d.dueRows(1, 5, "49 f0 | 0 0 100 | 8 0 -50 | 9 0 -1");
        d.dueRows(2, 5, "0 f0 | 0 0 100 | 9 0 -100");
        // own year alone: nothing is beyond
        d = carWith("own year 150;");
        d.claim(FIRE, 5, MOST, MOST);
        d.claim(FIRE, 5, MOST, MOST);
        d.dueRows(0, 5, MOST - 150 + " f0 | 0 0 " + MOST + " | 8 0 -150");
        d.dueRows(1, 5, MOST + " f0 | 0 0 " + MOST);
    }

    private static void casesThatAreLaid() {
        check.sentence("8 OWN YEAR, 9 YEAR: the cases KNOWN, with a NOTICE not behind that day, of one COVER and one YEAR"
                + " of the LOSS, are laid in ORDER, each with its s behind row 7 (0 where it has a FINDING or is OUT"
                + " or WAITs): it gives up the lesser of that and what is left of own year;"
                + " then what is beyond what is left of year, of which it takes what stays.");
        // by loss, the later notice of the earlier LOSS is laid first, once it is there
        Desk d = carWith("year 100; by loss;");
        Office o = d.office;
        o.item(o.loss(FIRE, 364), 0, 100, 100);
        o.item(o.loss(FIRE, 363), 0, 70, 70);
        o.notify(0, NONE, 0, 400);
        int now = o.count(4);
        o.notify(0, NONE, 1, 410);
        d.due("a notice behind that day", d.owed(0, 409), 100);
        d.due("a notice on that day", d.owed(0, 410), 30);
        d.due("not KNOWN yet", o.owed(0, 410, now), 100);
        // of another YEAR of the LOSS, of another COVER
        int later = d.claim(FIRE, 365, 100, 100);
        d.due("a notice behind another's", later, DAY);
        o.item(o.loss(FIRE, 365), 0, 100, 100);
        o.policy(CAR, 0, 0, 1094);
        o.period(1, 0, 5);
        o.policy(BUNDLE, 0, 0, 0);
        o.bundle(2, 1, 1);
        o.notify(0, NONE, 3, 410);
        o.notify(1, NONE, 1, 410);
        int placed = o.notify(2, 1, 1, 410);
        d.due("of its own YEAR", d.owed(2, 410), 100);
        d.due("others do not count", d.owed(0, 410), 30);
        d.due("of its own COVER", d.owed(3, 410), 70);
        // now the PLACE has this COVER
        o.bundle(2, 1, 0);
        d.due("the same COVER by a PLACE", d.owed(0, 410), 0);
        d.due("by the PLACE", d.owed(placed, 410), 30);
        d.due("as KNOWN before", o.owed(0, 410, o.count(4) - 1), 30);
    }

    private static void casesThatBringNothing() {
        check.sentence("8 OWN YEAR, 9 YEAR: the cases KNOWN, with a NOTICE not behind that day, of one COVER and one YEAR"
                + " of the LOSS, are laid in ORDER, each with its s behind row 7 (0 where it has a FINDING or is OUT"
                + " or WAITs): it gives up the lesser of that and what is left of own year;"
                + " then what is beyond what is left of year, of which it takes what stays.");
        Desk d = Desk.with(check, LIABILITY, 0);
        Office o = d.office;
        d.clauses(0, "year 100; own year 10; out any unless sort 0; wait 3;");
        d.claim(FIRE, 5, 100, 100);
        int out = o.loss(THIRD, 5);
        o.item(out, 1, 100, 100);
        o.notify(0, NONE, out, 5);
        o.item(o.loss(THIRD, 2), 0, 100, 100);
        o.notify(0, NONE, 2, 5);
        int c = d.claim(THIRD, 5, 100, 100);
        d.dueRows(0, 5, "none f2 | 0 0 100");
        d.dueRows(1, 5, "0 f0 | 0 0 100 | 1 2 -100");
        d.dueRows(2, 5, "0 f0 | 0 0 100 | 2 3 -100");
        d.dueRows(c, 5, "90 f0 | 0 0 100 | 8 0 -10");
        // behind row 7: SHARED counts, SALVAGE and PAID do not
        d = carWith("year 100;");
        d.claim(FIRE, 5, 90, 90);
        d.claim(FIRE, 5, 90, 90);
        d.office.salvage(0, 5, 80);
        d.office.pay(0, 5, 10);
        d.due("SALVAGE, PAID make no room", d.owed(1, 5), 10);
        d.office.share(0, 5, 1, 90);
        d.due("SHARED does", d.owed(1, 5), 55);
    }

    private static void orders() {
        check.sentence("ORDER by notice (without by, too): as they came; by loss: those that are not OPEN, as they came,"
                + " then the others by the day of their LOSS, of one day as they came.");
        int[] days = {30, 20, 30, 10, 20};
        String[] clauses = {"", "by notice;", "by loss;"};
        // each brings 100, the limit leaves place for so many, in this order
        int[][] order = {{0, 1, 2, 3, 4}, {0, 1, 2, 3, 4}, {3, 1, 4, 0, 2}};
        int[][] closed = {{0, 1, 2, 3, 4}, {0, 1, 2, 3, 4}, {0, 4, 3, 1, 2}};
        for (int i = 0; i < clauses.length; i++) {
            Desk d = carWith("year 250;" + clauses[i]);
            for (int loss = 0; loss < days.length; loss++) {
                d.office.item(d.office.loss(FIRE, days[loss]), 0, 100, 100);
            }
            for (int loss = 0; loss < days.length; loss++) {
                d.office.notify(0, NONE, loss, 40);
            }
            ordered(d, 40, order[i], clauses[i]);
            d.office.close(4, 50);
            d.office.close(0, 50);
            ordered(d, 49, order[i], clauses[i] + " not CLOSED yet");
            ordered(d, 50, closed[i], clauses[i] + " CLOSED");
            d.office.reopen(4, 60, 2);
            d.office.reopen(0, 60, 2);
            ordered(d, 59, closed[i], clauses[i] + " not REOPENED yet");
            ordered(d, 60, order[i], clauses[i] + " REOPENED");
        }
    }

    private static void ordered(Desk d, int day, int[] order, String what) {
        String[] due = {"100 f0 | 0 0 100", "100 f0 | 0 0 100", "50 f0 | 0 0 100 | 9 0 -50", "0 f0 | 0 0 100 | 9 0 -100",
            "0 f0 | 0 0 100 | 9 0 -100"};
        for (int place = 0; place < order.length; place++) {
            d.due("place " + place + " on day " + day + " " + what, d.rows(order[place], day), due[place]);
        }
    }

    // ---- rows 10 to 12

    private static void salvage() {
        check.sentence("10 SALVAGE: less all of it; or s, if that is less.");
        long[] salvages = {0, 1, 49, 50, 51, MOST};
        for (long salvage : salvages) {
            Desk d = carWith("loss 50;");
            d.claim(FIRE, 5, 100, 100);
            d.office.salvage(0, 5, salvage);
            long less = Math.min(salvage, 50);
            d.dueRows(0, 5, 50 - less + " f0 | 0 0 100 | 6 0 -50" + (less == 0 ? "" : " | 10 0 " + -less));
        }
        Desk d = car();
        d.claim(FIRE, 5, 100, 100);
        d.office.salvage(0, 5, 60);
        d.office.salvage(0, 5, 60);
        d.dueRows(0, 5, "0 f0 | 0 0 100 | 10 0 -100");
    }

    private static void interest() {
        check.sentence("11 INTEREST: for each day from the NOTICE to the one before that day: s (behind row 10) less"
                + " what was PAID of it ahead of the day that is gone over (0, if that is below 0); the sum of these,"
                + " times interest, by 3650000.");
        // 1000 a day at 3650: one cent a day; the LOSS is ahead of the NOTICE
        Desk d = carWith("interest 3650;");
        d.office.item(d.office.loss(FIRE, 10), 0, 1000, 1000);
        d.office.notify(0, NONE, 0, 20);
        d.dueRows(0, 20, "1000 f0 | 0 0 1000");
        d.dueRows(0, 21, "1001 f0 | 0 0 1000 | 11 0 1");
        d.dueRows(0, 10949, 1000 + 10929 + " f0 | 0 0 1000 | 11 0 10929");
        // the sum is divided, not each day: 999 * 3650 is below, 1000.1 days of it are 999 cents
        d = carWith("interest 3650;");
        d.claim(FIRE, 0, 999, 999);
        d.dueRows(0, 1, "999 f0 | 0 0 999");
        d.dueRows(0, 2, "1000 f0 | 0 0 999 | 11 0 1");
        d.dueRows(0, 1001, "1998 f0 | 0 0 999 | 11 0 999");
        // nothing behind row 10
        d.office.salvage(0, 1001, 999);
        d.dueRows(0, 2000, "0 f0 | 0 0 999 | 10 0 -999");
    }

    private static void interestOfWhatIsPaid() {
        check.sentence("11 INTEREST: for each day from the NOTICE to the one before that day: s (behind row 10) less"
                + " what was PAID of it ahead of the day that is gone over (0, if that is below 0); the sum of these,"
                + " times interest, by 3650000.");
        Desk d = carWith("interest 3650;");
        Office o = d.office;
        d.claim(FIRE, 0, 1000, 1000);
        // on the day of the NOTICE: that day has all of s still, the next ones half of it
        o.pay(0, 0, 500);
        d.dueRows(0, 0, "500 f0 | 0 0 1000 | 12 0 -500");
        d.dueRows(0, 1, "501 f0 | 0 0 1000 | 11 0 1 | 12 0 -500");
        d.dueRows(0, 2, "501 f0 | 0 0 1000 | 11 0 1 | 12 0 -500");
        d.dueRows(0, 3, "502 f0 | 0 0 1000 | 11 0 2 | 12 0 -500");
        // on day 10: 1000 + 9 * 500 are 5500, five cents of INTEREST; the rest is of s
        o.pay(0, 10, 505);
        d.dueRows(0, 10, "0 f0 | 0 0 1000 | 11 0 5 | 12 0 -1005");
        d.due("all of s was PAID", o.used(0, 0, o.count(4)), 1000);
        d.dueRows(0, 11, "1 f0 | 0 0 1000 | 11 0 6 | 12 0 -1005");
        d.dueRows(0, 10000, "1 f0 | 0 0 1000 | 11 0 6 | 12 0 -1005");
        // s becomes 1, less than was PAID: day 0 has that one, each of the others 0, not less
        o.salvage(0, 20, 999);
        d.dueRows(0, 20, "-1004 f0 | 0 0 1000 | 10 0 -999 | 12 0 -1005");
        d.due("as KNOWN before", o.owed(0, 20, o.count(4) - 1), 1);
    }

    private static void paid() {
        check.sentence("12 PAID: less all that was PAID.");
        Desk d = car();
        Office o = d.office;
        d.claim(FIRE, 0, 1000, 1000);
        o.pay(0, 10, 1);
        o.pay(0, 20, 999);
        d.dueRows(0, 9, "1000 f0 | 0 0 1000");
        d.dueRows(0, 10, "999 f0 | 0 0 1000 | 12 0 -1");
        d.dueRows(0, 19, "999 f0 | 0 0 1000 | 12 0 -1");
        d.dueRows(0, 20, "0 f0 | 0 0 1000 | 12 0 -1000");
        o.recourse(0, 20, 1000);
        d.dueRows(0, 20, "0 f0 | 0 0 1000 | 12 0 -1000");
        d.clauses(0, "loss 1;");
        d.dueRows(0, 20, "-999 f0 | 0 0 1000 | 6 0 -999 | 12 0 -1000");
    }

    private static void rowsThatAreTold() {
        check.sentence("Then, in this order:");
        rowsInTheirOrder();
        check.sentence("Row 0 is told always, 1 and 2 when they end it, others if their cents are not 0."
                + " Arguments not named are 0.");
        rowsInTheirOrder();
        // none but row 0: nothing is to be taken off, or it is 0 that is
        Desk d = Desk.with(check, DWELLING, 0);
        d.clauses(0, "own loss 5; loss 0; own year 5; year 0; interest 5;");
        d.claim(FIRE, 10, 0, 1);
        d.office.share(0, 10, 1, 1);
        d.office.salvage(0, 10, 5);
        d.dueRows(0, 400, "0 f0 | 0 0 0");
    }

    /** All rows but 1 and 2: THEFT of a TRANSPORT, 100000 of WORTH. */
    private static void rowsInTheirOrder() {
        Desk d = Desk.with(check, TRANSPORT, 50000);
        Office o = d.office;
        d.clauses(0, "average; own loss 500; loss 40000; own year 1000; year 10000; interest 3650;");
        d.claim(THEFT, 10, 100000, 100000);
        o.share(0, 10, 3, 40000);
        o.salvage(0, 10, 1000);
        o.pay(0, 110, 100);
        // 50000, less 15 of a hundred 42500, 42000, 40000, a half of 80000: 40000; 39000, 10000, 9000
        d.dueRows(0, 110, "9800 f0 | 0 0 100000 | 3 0 -50000 | 4 15 -7500 | 5 0 -500 | 6 0 -2000 | 8 0 -1000"
                + " | 9 0 -29000 | 10 0 -1000 | 11 0 900 | 12 0 -100");
        o.share(0, 110, 3, 100000);
        // T is 100000: 100000 * 40000 / 140000 is 28571.4, and the cent left goes by RANK to this office
        d.dueRows(0, 110, "9800 f0 | 0 0 100000 | 3 0 -50000 | 4 15 -7500 | 5 0 -500 | 6 0 -2000 | 7 1 -11428"
                + " | 8 0 -1000 | 9 0 -17572 | 10 0 -1000 | 11 0 900 | 12 0 -100");
        d.due("say", o.say() > 0 ? d.said() : "", "worth 100000\naverage -50000\nself -7500\nown -500\nlimit -2000\n"
                + "shared -11428\nownyear -1000\nyear -17572\nsalvage -1000\ninterest 900\npaid -100\n");
    }

    // ---- FINDINGS

    private static void findings() {
        check.sentence("FINDINGS: 1 NOTHING, 2 NOT THAT KIND, 3 OUTSIDE, 4 NOUGHT, 5 GREAT: the first that is met;"
                + " rows told by then stay.");
        Desk d = Desk.with(check, LIABILITY, MOST);
        Office o = d.office;
        d.clauses(0, "average;");
        o.policy(BUNDLE, 0, 0, 0);
        int kind = d.claim(FIRE, 5, 100, 100);
        int nothing = o.notify(1, 0, 0, 5);
        int nought = d.claim(THIRD, 5, 7, 0);
        int great = d.claim(THIRD, 5, MOST, MOST);
        int outside = d.claim(THIRD, 1095, 100, 100);
        d.dueRows(nothing, 2000, "none f1");
        d.dueRows(kind, 2000, "none f2 | 0 0 100");
        d.dueRows(outside, 2000, "none f3");
        d.dueRows(nought, 2000, "none f4 | 0 0 7");
        d.dueRows(great, 2000, "none f5 | 0 0 " + MOST);
        d.due("findings", o.count(10), 5);
        // behind rows 4 to 6: shares of nothing; behind rows 4 to 10: INTEREST
        d = Desk.with(check, TRANSPORT, 0);
        d.clauses(0, "own loss 5; loss 0;");
        d.claim(FIRE, 5, 100, 100);
        d.office.share(0, 5, 1, 0);
        d.dueRows(0, 5, "none f4 | 0 0 100 | 4 5 -5 | 5 0 -5 | 6 0 -90");
        d.clauses(0, "own loss 5; loss 900000000; year 800000000; own year 1; interest 999999999;");
        d.office.correct(0, 5, 0, 0, MOST, 0);
        d.office.correct(0, 5, 0, 1, MOST, 0);
        d.office.salvage(0, 5, 1);
        d.dueRows(0, 10949, "none f5 | 0 0 1000000000000 | 4 5 -50000000000 | 5 0 -5 | 6 0 -949099999995 | 8 0 -1"
                + " | 9 0 -99999999 | 10 0 -1");
    }

    private static void firstFinding() {
        check.sentence("FINDINGS: 1 NOTHING, 2 NOT THAT KIND, 3 OUTSIDE, 4 NOUGHT, 5 GREAT: the first that is met;"
                + " rows told by then stay.");
        Desk d = new Desk(check);
        Office o = d.office;
        o.person();
        o.policy(LIABILITY, 0, 0, 364);
        // OUTSIDE ahead of NOTHING told of that YEAR, NOTHING ahead of NOT THAT KIND
        d.dueRows(d.claim(FIRE, 300, 100, 100), 300, "none f1");
        d.dueRows(d.claim(FIRE, 365, 100, 100), 365, "none f3");
        o.period(0, 0, MOST);
        d.dueRows(0, 365, "none f2 | 0 0 100");
        // OUT of the TERM ahead of NOT THAT KIND
        o.policy(LIABILITY, 0, 301, 364);
        o.period(1, 0, 5);
        d.dueRows(o.notify(1, NONE, 0, 365), 365, "0 f0 | 0 0 100 | 1 -2 -100");
        // GREAT of AVERAGE ahead of NOUGHT of shares
        d = Desk.with(check, CAR, MOST);
        d.clauses(0, "average; loss 0;");
        d.claim(FIRE, 5, MOST, MOST);
        d.office.share(0, 5, 1, 0);
        d.dueRows(0, 5, "none f5 | 0 0 " + MOST);
    }

    private static void findingsThatAreCounted() {
        check.sentence("They are counted as they are met (by pay() that is refused, in a BATCH that is undone, too)"
                + " (of others that are laid, too; these are worked just if there is own year or year):");
        Desk d = Desk.with(check, LIABILITY, 0);
        Office o = d.office;
        int third = d.claim(THIRD, 5, 100, 100);
        d.claim(FIRE, 5, 100, 100);
        d.claim(FIRE, 5, 100, 100);
        d.owed(third, 5);
        d.due("without own year or year", o.count(10), 0);
        d.owed(1, 5);
        d.due("its own", o.count(10), 1);
        d.owed(1, 5);
        d.due("each time", o.count(10), 2);
        o.pay(1, 5, 1);
        d.due("by pay() that is refused", o.count(10), 3);
        o.batch();
        o.pay(third, 5, 1);
        o.pay(1, 5, 1);
        o.pay(2, 5, 1);
        d.due("not while it is HELD", o.count(10), 3);
        d.due("end", o.end(), -21);
        d.due("in a BATCH that is undone; the third was not done", o.count(10), 4);
        o.batch();
        o.pay(1, 5, 1);
        o.undo();
        d.due("not where it is given up", o.count(10), 4);
        for (String clause : new String[] {"own year 0;", "year 999999999;"}) {
            int before = o.count(10);
            d.clauses(0, clause);
            d.owed(third, 5);
            d.due("of others with " + clause, o.count(10), before + 2);
            d.due("no finding of its own", o.finding(), 0);
            o.pay(third, 5, 1);
            d.due("of others by pay() with " + clause, o.count(10), before + 4);
            d.owed(1, 5);
            d.due("its own ends it: no others are laid", o.count(10), before + 5);
        }
        int second = o.notify(0, NONE, 0, 5);
        d.clauses(0, "");
        int before = o.count(10);
        d.owed(second, 5);
        d.due("without own year or year, with others ahead of it", o.count(10), before);
        d.due("asking for used() works none", o.used(0, 0, o.count(4)), 2);
        d.due("nor left()", o.left(0, 0, o.count(4) - 1), 999999997L);
        d.due("findings", o.count(10), 14);
        // of a case that is not the first: the first has a FINDING, but nothing is laid
        d = Desk.with(check, LIABILITY, 0);
        d.claim(FIRE, 5, 100, 100);
        int late = d.claim(THIRD, 5, 100, 100);
        d.due("owed", d.owed(late, 5), 100);
        d.due("not laid, not worked", d.office.count(10), 0);
        // others that are laid without a FINDING: not covered, waiting, or in order
        d = carWith("year 500; own year 5; wait 3;");
        d.claim(FIRE, 2, 100, 100);
        d.claim(WATER, 5, 100, 100);
        d.claim(FIRE, 5, 100, 100);
        int last = d.claim(FIRE, 5, 100, 100);
        d.due("owed", d.owed(last, 5), 100);
        d.due("none is counted", d.office.count(10), 0);
    }

    private static void findings2500() {
        check.sentence("when 2500 were, owed() is as BAD, pay() is FULL (ahead of MUCH).");
        Desk d = Desk.with(check, LIABILITY, 0);
        Office o = d.office;
        d.clauses(0, "year 50;");
        int third = d.claim(THIRD, 5, 100, 100);
        int fire = o.loss(FIRE, 5);
        for (int i = 0; i < 98; i++) {
            o.notify(0, NONE, fire, 5);
        }
        int now = o.count(4);
        for (int i = 1; i <= 25; i++) {
            d.due("owed", o.owed(third, 5, now), 50);
        }
        d.due("findings", o.count(10), 98 * 25);
        for (int i = 0; i < 49; i++) {
            d.due("a finding", o.owed(1, 5, now), NO_ANSWER);
        }
        d.due("findings", o.count(10), 2499);
        d.due("pay() is MUCH", o.pay(1, 5, 1), MUCH);
        d.due("findings", o.count(10), 2500);
        d.due("what was LOOKED AT", o.finding(), 2);
        d.due("owed() is as BAD", o.owed(third, 5, now), NO_ANSWER);
        d.due("it was not LOOKED AT", o.finding(), 2);
        d.due("owed() is as BAD, with a finding, too", o.owed(1, 5, now), NO_ANSWER);
        d.due("pay() is FULL", o.pay(third, 5, 1), FULL);
        d.due("ahead of MUCH", o.pay(third, 5, 51), FULL);
        d.due("ahead of MUCH by a finding", o.pay(1, 5, 51), FULL);
        d.due("behind BAD", o.pay(third, 5, 0), BAD);
        d.due("behind DAY", o.pay(third, 4, 5), DAY);
        d.due("findings", o.count(10), 2500);
        d.due("no facts", o.of(third, 5), 0);
        o.batch();
        o.reserve(third, 5, 0, 7);
        o.pay(third, 5, 1);
        d.due("in a BATCH", o.end(), -21);
        d.due("reserved", o.reserved(0, 0, o.count(4)), 0);
        d.due("others go on", o.salvage(third, 5, 1), 1);
        o.close(third, 5);
        d.due("behind STATE", o.pay(third, 5, 5), STATE);
        d.due("used() goes on", o.used(0, 0, o.count(4)), 0);
        d.due("left() goes on", o.left(0, 0, o.count(4)), 50);
        d.due("findings", o.count(10), 2500);
    }

    /** What is met while others are laid is counted, beyond 2500 too; just the next call is refused. */
    private static void findings2500WhileLaid() {
        check.sentence("when 2500 were, owed() is as BAD, pay() is FULL (ahead of MUCH).");
        Desk d = Desk.with(check, LIABILITY, 0);
        Office o = d.office;
        d.clauses(0, "year 50;");
        int third = d.claim(THIRD, 5, 100, 100);
        int fire = o.loss(FIRE, 5);
        for (int i = 0; i < 99; i++) {
            o.notify(0, NONE, fire, 5);
        }
        int now = o.count(4);
        for (int i = 0; i < 25; i++) {
            o.owed(third, 5, now);
        }
        d.due("findings", o.count(10), 99 * 25);
        d.due("the one that goes beyond is answered", o.owed(third, 5, now), 50);
        d.due("findings", o.count(10), 99 * 26);
        d.due("the next one is not", o.owed(third, 5, now), NO_ANSWER);
        d.due("what was LOOKED AT stays", o.cents(0), 100);
        d.due("nor is pay()", o.pay(third, 5, 5), FULL);
        d.due("findings", o.count(10), 99 * 26);
    }

    // ---- promises 25 to 30

    private static void lookingAt() {
        check.sentence("WHAT IS OWED; NO_ANSWER: there is a FINDING. The case is LOOKED AT by that"
                + " (not by BAD, also NO_ANSWER).");
        Desk d = car();
        Office o = d.office;
        int c = d.claim(FIRE, 100, 70, 70);
        int other = d.claim(FIRE, 1095, 50, 50);
        int now = o.count(4);
        int moment = o.of(c, 6);
        int[][] bad = {{-1, 100, now}, {2, 100, now}, {c, 99, now}, {c, -1, now}, {c, 10950, now}, {c, 100, now + 1},
            {c, 100, moment - 1}, {c, 100, -1}, {LOWEST, 100, now}, {HIGHEST, 100, now}, {c, LOWEST, now}, {c, HIGHEST, now},
            {c, 100, LOWEST}, {c, 100, HIGHEST}, {other, 1094, now}, {other, 1095, now - 1}};
        for (int[] b : bad) {
            d.due("owed(" + b[0] + ", " + b[1] + ", " + b[2] + ")", o.owed(b[0], b[1], b[2]), NO_ANSWER);
            d.due("nothing was LOOKED AT", o.row(0, 0), NONE);
        }
        d.due("at the moment of the case", o.owed(c, 100, moment), 70);
        for (int[] b : bad) {
            o.owed(b[0], b[1], b[2]);
            d.due("what was LOOKED AT stays", o.cents(0), 70);
        }
        d.due("no findings", o.count(10), 0);
        check.sentence("The FINDING of what was LOOKED AT last; 0: none (or nothing was).");
        d.due("none", o.finding(), 0);
        d.due("OUTSIDE", o.owed(other, 1095, now), NO_ANSWER);
        d.due("it is LOOKED AT", o.finding(), 3);
        d.due("it has no rows", o.row(0, 0), NONE);
        d.due("it has no trace", o.trace(0), NONE);
        d.due("the last day", o.owed(c, 10949, now), 70);
        d.due("none", o.finding(), 0);
        d.due("nothing was", new Office().finding(), 0);
        // in a BATCH, too
        o.batch();
        d.due("in a BATCH", o.owed(c, 100, now), 70);
    }

    private static void rowsAndCents() {
        check.sentence("Row i of it: its code (what = 0), argument (1); NONE (an argument may be that). BAD: what.");
        Desk d = car();
        Office o = d.office;
        int c = d.claim(WATER, 100, 70, 70);
        for (int what = 0; what <= 1; what++) {
            d.due("nothing was LOOKED AT", o.row(0, what), NONE);
        }
        d.owed(c, 100);
        int[] rows = {LOWEST, -1, 2, 13, HIGHEST};
        for (int i : rows) {
            d.due("code of row " + i, o.row(i, 0), NONE);
            d.due("argument of row " + i, o.row(i, 1), NONE);
        }
        for (int what : new int[] {LOWEST, -1, 2, HIGHEST}) {
            d.due("what " + what, o.row(0, what), BAD);
            d.due("BAD ahead of NONE", o.row(5, what), BAD);
        }
        d.due("code", o.row(1, 0), 1);
        d.due("an argument that is NONE", o.row(1, 1), NONE);
        check.sentence("Its cents; 0: there is no such row.");
        for (int i : rows) {
            d.due("cents of row " + i, o.cents(i), 0);
        }
        d.due("cents of row 0", o.cents(0), 70);
        d.due("cents of row 1", o.cents(1), -70);
        d.due("cents of nothing", new Office().cents(0), 0);
    }

    /** Nothing shows of what was LOOKED AT, or worked, before. */
    private static void fewerRows() {
        check.sentence("Its cents; 0: there is no such row.");
        Desk d = Desk.with(check, TRANSPORT, 50);
        Office o = d.office;
        d.clauses(0, "average; own loss 5; loss 30; interest 3650; year 1000000;");
        int c = d.claim(THEFT, 5, 1000, 1000);
        int out = d.claim(THIRD, 5, 70, 70);
        int outside = d.claim(FIRE, 1095, 70, 70);
        for (int round = 0; round < 3; round++) {
            d.dueRows(c, 1000, "59 f0 | 0 0 1000 | 3 0 -950 | 4 15 -7 | 5 0 -5 | 6 0 -8 | 11 0 29");
            d.due("its trace", d.trace(), "114 104 70 95 95 60 95 95 71 95 2 73 63 95");
            d.dueRows(c, 1000, "59 f0 | 0 0 1000 | 3 0 -950 | 4 15 -7 | 5 0 -5 | 6 0 -8 | 11 0 29");
            d.dueRows(out, 5, "0 f0 | 0 0 70 | 1 -1 -70");
            d.due("its trace", d.trace(), "94 70 95");
            for (int i = 2; i < 8; i++) {
                d.due("cents of row " + i, o.cents(i), 0);
                d.due("code of row " + i, o.row(i, 0), NONE);
            }
            d.dueRows(outside, 1095, "none f3");
            d.due("cents of row 0", o.cents(0), 0);
            d.due("no trace", o.trace(0), NONE);
        }
        // row 11 of another case is none of this one: all that is PAID is of s
        d = carWith("interest 3650;");
        o = d.office;
        d.claim(FIRE, 5, 1000, 1000);
        int later = d.claim(FIRE, 15, 1000, 1000);
        o.pay(0, 15, 1);
        o.owed(0, 15, o.count(4));
        o.pay(0, 15, 1);
        d.due("PAID of INTEREST", o.used(0, 0, o.count(4)), 0);
        o.pay(later, 15, 3);
        d.due("PAID of s", o.used(0, 0, o.count(4)), 3);
    }

    private static void trace200() {
        check.sentence("Number i of TRACE of it (of its own working, not of others that are laid; 200 are kept); NONE.");
        // a STORM in four PARTS asks six bodies for each KIND; 145 145 145 145 125 95
        Desk d = car();
        Office o = d.office;
        o.item(o.loss(3, 20), 0, 5, 5);
        for (int i = 0; i < 4; i++) {
            o.part(i, 100);
        }
        d.clauses(0, "in fire;".repeat(29) + "in any unless is fire;");
        o.notify(0, NONE, 4, 20);
        o.notify(0, NONE, 0, 20);
        d.dueRows(0, 20, "5 f0 | 0 0 5");
        // 144 four times, 104, then 60 and three times six, 10: 25; 29 times six are 174, so 199 by then
        d.due("number 0", o.trace(0), 144);
        d.due("number 3", o.trace(3), 144);
        d.due("number 4", o.trace(4), 104);
        d.due("number 5", o.trace(5), 60);
        d.due("number 24", o.trace(24), 10);
        d.due("number 25", o.trace(25), 145);
        d.due("number 198", o.trace(198), 95);
        d.due("the last that is kept", o.trace(199), 145);
        d.due("one more", o.trace(200), NONE);
        for (int i : new int[] {LOWEST, -1, 201, HIGHEST}) {
            d.due("number " + i, o.trace(i), NONE);
        }
        // fewer behind it: 104, 60, three times 125 95, 10, 29 + 1 times 125 95, then rows 2 to 4
        d.owed(1, 20);
        d.due("number 0", o.trace(0), 104);
        d.due("the last", o.trace(9 + 60 + 4), 95);
        d.due("the last", o.trace(9 + 60 + 5), 13);
        d.due("no more", o.trace(9 + 60 + 6), NONE);
        // others that are laid are not in it
        d = carWith("year 50;");
        d.claim(FIRE, 5, 100, 100);
        d.claim(THEFT, 5, 100, 100);
        d.owed(1, 5);
        d.due("its own", d.trace(), "114 104 60 95 95 1 2 63 95");
        d.owed(0, 5);
        d.due("its own", d.trace(), "104 60 95 1 2 63 95 13");
    }

    private static void saying() {
        check.sentence("Its rows as a text: how many bytes: worth, out, wait, average, self, own, limit, shared, ownyear,"
                + " year, salvage, interest, paid, a blank, cents (- ahead, if below 0), a line (10), for each.");
        Desk d = car();
        Office o = d.office;
        d.due("nothing was LOOKED AT", o.say(), 0);
        d.due("no letters", o.letter(0), NONE);
        int out = d.claim(WATER, 5, 70, 70);
        int nothing = d.claim(FIRE, 5, 0, 70);
        int outside = d.claim(FIRE, 1095, 70, 70);
        d.owed(out, 5);
        d.due("bytes", o.say(), 17);
        d.due("out", d.said(), "worth 70\nout -70\n");
        d.owed(nothing, 5);
        d.due("bytes", o.say(), 8);
        d.due("cents of 0", d.said(), "worth 0\n");
        d.clauses(0, "wait 7;");
        d.owed(nothing, 5);
        d.due("bytes", o.say(), 15);
        d.due("wait", d.said(), "worth 0\nwait 0\n");
        d.owed(outside, 1095);
        d.due("a finding without rows", o.say(), 0);
        d.due("bytes", o.count(9), 0);
        // the greatest
        d = car();
        d.office.loss(FIRE, 5);
        for (int i = 0; i < 6; i++) {
            d.office.item(0, 0, MOST, MOST);
        }
        d.office.notify(0, NONE, 0, 5);
        d.clauses(0, "own loss 1;");
        d.owed(0, 5);
        d.due("bytes", d.office.say(), 20 + 7);
        d.due("text", d.said(), "worth 6000000000000\nown -1\n");
    }
}
