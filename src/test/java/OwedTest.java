/** Promises 25 to 30, and what is owed: bodies, clauses, rows, shares, limits of years, findings. */
public final class OwedTest {
    private static final int NONE = -1, BAD = -2, MUCH = -6, FULL = -7;
    private static final long NO_ANSWER = ClaimsOffice.NO_ANSWER;
    private static final long MOST = 1000000000000L;
    private static final int FIRE = 0, WATER = 1, THEFT = 2, STORM = 3, THIRD = 4;
    private static final Check check = new Check();

    public static void main(String[] args) {
        asking();
        looking();
        bodiesOfProperty();
        bodiesOfCars();
        bodiesOfLiability();
        bodiesOfParts();
        longTrace();
        terms();
        clausesInAndOut();
        conditions();
        waits();
        averages();
        ownAndLimit();
        sharesByAlone();
        sharesByRounds();
        sharesByRanks();
        yearsByNotice();
        yearsByLoss();
        othersWithFindings();
        interest();
        findings();
        great();
        manyFindings();
        check.done();
    }

    private static void asking() {
        Desk d = Desk.with(check, 2, 0);
        Office o = d.office;
        int c = d.claim(FIRE, 100, 50, 50);
        int now = (int) d.now();
        d.due("25 no case", o.owed(1, 100, now), NO_ANSWER);
        d.due("25 no case", o.owed(-1, 100, now), NO_ANSWER);
        d.due("25 ahead of the notice", o.owed(c, 99, now), NO_ANSWER);
        d.due("25 no day", o.owed(c, 10950, now), NO_ANSWER);
        d.due("25 above now", o.owed(c, 100, now + 1), NO_ANSWER);
        d.due("25 ahead of the case", o.owed(c, 100, now - 1), NO_ANSWER);
        d.due("26 nothing was looked at", o.finding(), 0);
        d.due("27 no row", o.row(0, 0), NONE);
        d.due("25 owed", o.owed(c, 100, now), 50);
        d.due("25 the last day", o.owed(c, 10949, now), 50);
        o.owed(c, 99, now);
        d.due("25 what was looked at stays", o.cents(0), 50);
    }

    private static void looking() {
        Desk d = Desk.with(check, 2, 0);
        Office o = d.office;
        d.clauses(0, "own loss 5; loss 900;");
        int c = d.claim(THEFT, 100, 1234, 2000);
        o.pay(c, 100, 17);
        d.due("25 owed", d.owed(c, 100), 883);
        d.due("27 code", o.row(1, 0), 4);
        d.due("27 argument", o.row(1, 1), 10);
        d.due("27 what", o.row(1, 2), BAD);
        d.due("27 what", o.row(99, -1), BAD);
        d.due("27 no row", o.row(5, 0), NONE);
        d.due("27 no row", o.row(-1, 1), NONE);
        d.due("28 cents", o.cents(1), -120);
        d.due("28 no row", o.cents(5), 0);
        d.due("28 no row", o.cents(-1), 0);
        d.due("29 no trace", o.trace(-1), NONE);
        d.due("29 trace", d.trace(), "114 104 60 95 95 1 2 63 95");
        d.due("30 say", o.say(), 48);
        d.due("30 text", d.said(), "worth 1200\nself -120\nown -5\nlimit -175\npaid -17\n");
        d.due("32 letter", o.letter(0), 'w');
        d.due("32 letter", o.letter(10), 10);
        d.due("32 no letter", o.letter(-1), NONE);
        d.due("32 no letter", o.letter(o.count(9)), NONE);
    }

    private static void bodiesOfProperty() {
        // what DWELLING, CONTENTS and CROP cover, and how they ask
        String[] dwelling = {
            "104 30 95 95 20 95 1 22 13", "104 30 95 1 22 13", "114 104 30 95 95 20 95 10", "104 30 125 95 125 95 1 22 13",
            "94 30 95 95 20 95 10"};
        String[] contents = {
            "104 40 95 30 95 95 20 95 41 95 42 95 22 13", "104 40 95 30 95 41 95 42 95 22 13",
            "114 104 40 95 41 95 42 95 13", "104 40 125 95 30 125 95 125 95 41 125 95 42 125 95 22 13",
            "94 40 95 30 95 95 20 95 10"};
        String[] crop = {"104 50 95", "104 50 95", "114 104 50 95", "104 50 125 95 51 52 13", "94 50 95"};
        for (int kind = FIRE; kind <= THIRD; kind++) {
            Desk d = Desk.with(check, 0, 100);
            int c = d.claim(kind, 20, 100, 100);
            boolean out = kind == THEFT || kind == THIRD;
            d.dueRows(c, 20, out ? "0 f0 | 0 0 100 | 1 -1 -100" : "100 f0 | 0 0 100");
            d.due("29 dwelling " + kind, d.trace(), dwelling[kind]);

            d = Desk.with(check, 1, 100);
            c = d.claim(kind, 20, 100, 100);
            d.dueRows(c, 20, kind == THIRD ? "0 f0 | 0 0 100 | 1 -1 -100" : "100 f0 | 0 0 100");
            d.due("29 contents " + kind, d.trace(), contents[kind]);

            d = Desk.with(check, 4, 100);
            c = d.claim(kind, 20, 100, 100);
            d.dueRows(c, 20, kind == STORM ? "100 f0 | 0 0 100" : "0 f0 | 0 0 100 | 1 -1 -100");
            d.due("29 crop " + kind, d.trace(), crop[kind]);
        }
        // a STORM with an ITEM of SORT 3 IS WATER, too
        Desk d = Desk.with(check, 0, 100);
        d.office.loss(STORM, 20);
        d.office.item(0, 4, 60, 60);
        d.office.item(0, 3, 40, 40);
        d.dueRows(d.office.notify(0, -1, 0, 20), 20, "100 f0 | 0 0 100");
        d.due("29 a wet storm", d.trace(), "104 30 125 1 22 13");
        d = Desk.with(check, 0, 600);
        d.office.loss(STORM, 20);
        for (int i = 0; i < 6; i++) {
            d.office.item(0, 9, 100, 100);
        }
        d.dueRows(d.office.notify(0, -1, 0, 20), 20, "600 f0 | 0 0 600");
        d.due("29 a dry storm of six items", d.trace(), "104 30 125 95 125 95 1 22 13");
    }

    private static void bodiesOfCars() {
        String[] car = {"104 60 95 1 2 63 95 13", "104 60 95 95 95 10", "114 104 60 95 95 1 2 63 95",
            "104 60 125 95 125 95 125 95 10", "94 60 95 95 95 1 2 63 95 13"};
        String[] carRows = {"200 f0 | 0 0 200", "0 f0 | 0 0 200 | 1 -1 -200", "180 f0 | 0 0 200 | 4 10 -20",
            "0 f0 | 0 0 200 | 1 -1 -200", "200 f0 | 0 0 200"};
        String[] transport = {"104 70 95 95 60 95 71 95 2 73 63 95 13", "104 70 95 95 71 95 2 73 63 95 13",
            "114 104 70 95 95 60 95 95 71 95 2 73 63 95", "104 70 125 95 125 95 60 125 95 125 95 125 95 10", "94 70 95"};
        String[] transportRows = {"190 f0 | 0 0 200 | 4 5 -10", "190 f0 | 0 0 200 | 4 5 -10",
            "170 f0 | 0 0 200 | 4 15 -30", "0 f0 | 0 0 200 | 1 -1 -200", "0 f0 | 0 0 200 | 1 -1 -200"};
        for (int kind = FIRE; kind <= THIRD; kind++) {
            Desk d = Desk.with(check, 2, 0);
            int c = d.claim(kind, 20, 200, 200);
            d.dueRows(c, 20, carRows[kind]);
            d.due("29 car " + kind, d.trace(), car[kind]);

            d = Desk.with(check, 5, 0);
            c = d.claim(kind, 20, 200, 200);
            d.dueRows(c, 20, transportRows[kind]);
            d.due("29 transport " + kind, d.trace(), transport[kind]);
        }
        // WORTH: VALUE counts but with THIRD, n is the most for an ITEM, THEFT goes by whole hundreds
        Desk d = Desk.with(check, 2, 0);
        d.clauses(0, "item 777;");
        Office o = d.office;
        for (int kind : new int[] {FIRE, THEFT, THIRD}) {
            int loss = o.loss(kind, 20);
            o.item(loss, 0, 700, 500);
            o.item(loss, 0, 900, 1000);
            d.due("0 worth", d.owed(o.notify(0, -1, loss, 20), 20),
                    kind == FIRE ? 1277 : kind == THEFT ? 1200 - 120 : 1477);
        }
    }

    private static void bodiesOfLiability() {
        Desk d = Desk.with(check, 3, 0);
        Office o = d.office;
        int c = d.claim(THIRD, 20, 200, 0);
        d.dueRows(c, 20, "200 f0 | 0 0 200");
        d.due("29 liability", d.trace(), "94 80 1 2 13");
        int none = o.notify(0, -1, o.loss(THIRD, 20), 20);
        d.dueRows(none, 20, "0 f0 | 0 0 0 | 1 -1 0");
        int fire = d.claim(FIRE, 20, 200, 200);
        d.dueRows(fire, 20, "none f2 | 0 0 200");
        d.due("29 not that kind", d.trace(), "104 80");
        int part = o.notify(0, -1, o.part(0, 50), 20);
        d.dueRows(part, 20, "none f2 | 0 0 100");
        d.clauses(0, "in any;");
        d.dueRows(fire, 20, "none f2 | 0 0 200");
    }

    private static void bodiesOfParts() {
        Desk d = Desk.with(check, 2, 0);
        Office o = d.office;
        o.loss(THEFT, 20);
        o.item(0, 0, 1099, 1099);
        o.part(0, 33);
        o.part(1, 50);
        int c = o.notify(0, -1, 2, 20);
        d.dueRows(c, 20, "149 f0 | 0 0 165 | 4 10 -16");
        d.due("29 a part of a part", d.trace(),
                "144 144 114 104 60 145 145 95 145 145 95 1 2 63 145 145 95");
        // AVERAGE by the VALUES of the WHOLE, not by HUNDREDTHS; 10 of SUM, 1099 of VALUES
        d = Desk.with(check, 0, 549);
        o = d.office;
        o.loss(FIRE, 20);
        o.item(0, 0, 1000, 1099);
        o.part(0, 10);
        d.dueRows(o.notify(0, -1, 1, 20), 20, "49 f0 | 0 0 100 | 3 0 -51");
    }

    private static void longTrace() {
        Desk d = Desk.with(check, 2, 0);
        Office o = d.office;
        o.loss(STORM, 20);
        o.item(0, 0, 5, 5);
        for (int i = 0; i < 4; i++) {
            o.part(i, 100);
        }
        d.clauses(0, "in fire;".repeat(30) + "  ".repeat(40));
        int c = o.notify(0, -1, 4, 20);
        d.owed(c, 20);
        d.due("29 the last that is kept", o.trace(199), 145);
        d.due("29 no more are kept", o.trace(200), NONE);
    }

    private static void terms() {
        Desk d = new Desk(check);
        Office o = d.office;
        o.person();
        o.policy(2, 0, 400, 500);
        o.period(0, 1, 5);
        int[] days = {364, 365, 399, 400, 500, 501, 729, 730};
        String[] rows = {"none f3", "0 f0 | 0 0 7 | 1 -2 -7", "0 f0 | 0 0 7 | 1 -2 -7", "7 f0 | 0 0 7", "7 f0 | 0 0 7",
            "0 f0 | 0 0 7 | 1 -2 -7", "0 f0 | 0 0 7 | 1 -2 -7", "none f3"};
        for (int i = 0; i < days.length; i++) {
            d.dueRows(d.claim(FIRE, days[i], 7, 7), days[i], rows[i]);
        }
        // not in the TERM: COVERS is not asked, so there is no FINDING
        o.policy(3, 0, 400, 500);
        o.period(1, 1, 5);
        o.notify(1, -1, o.loss(FIRE, 390), 730);
        d.dueRows(8, 730, "0 f0 | 0 0 0 | 1 -2 0");
        d.due("29 not asked", d.trace(), "104");
    }

    private static void clausesInAndOut() {
        Desk d = Desk.with(check, 2, 0);
        int c = d.claim(WATER, 20, 200, 200);
        d.clauses(0, "in water;");
        d.dueRows(c, 20, "200 f0 | 0 0 200");
        d.due("29 in", d.trace(), "104 60 95 95 95 10 95 1 2 63 95 13");
        d.clauses(0, "wait 1; in any; item 500; out water; in fire; average;");
        d.dueRows(c, 20, "0 f0 | 0 0 200 | 1 3 -200");
        d.due("29 any is not asked", d.trace(), "104 60 95 95 95 10 95 95");
        d.clauses(0, "in any unless items 0; in water unless items 1;");
        d.dueRows(c, 20, "200 f0 | 0 0 200");
        d.clauses(0, "in any; out any unless items 1; in water unless items 0;");
        d.dueRows(c, 20, "0 f0 | 0 0 200 | 1 1 -200");
        d.clauses(0, "in any unless is water;");
        d.dueRows(c, 20, "0 f0 | 0 0 200 | 1 -1 -200");
        // the COND is asked just where the KIND is that of the LOSS
        d.clauses(0, "in water unless is fire and is theft; in theft unless is fire;");
        d.dueRows(c, 20, "200 f0 | 0 0 200");
        d.due("29 as far as they must", d.trace(), "104 60 95 95 95 10 95 95 95 1 2 63 95 13");
        d.due("25 as known before", d.office.owed(c, 20, d.office.of(c, 6)), 0);
    }

    private static void conditions() {
        Desk d = Desk.with(check, 2, 0);
        Office o = d.office;
        o.loss(WATER, 20);
        o.item(0, 4, 300, 100);
        o.item(0, 7, 200, 100);
        o.part(0, 50);
        o.notify(0, -1, 1, 25);
        String[] hold = {"amount 499", "items 1", "late 4", "sort 4", "sort 7", "is water", "is any", "not is fire",
            "not not is water", "is fire or is water", "is water or is fire and is fire", "not (is fire or is theft)",
            "(is fire or is water) and items 0", "not (is fire and is water)", "late 4 and not late 5"};
        String[] fail = {"amount 500", "items 2", "late 5", "sort 5", "is fire", "is third", "not is any",
            "is water and is fire", "(is water or is fire) and is fire", "not is water or is fire"};
        for (String cond : hold) {
            d.clauses(0, "in water unless " + cond + ";");
            d.due("3 holds: " + cond, d.owed(0, 25), 0);
        }
        for (String cond : fail) {
            d.clauses(0, "in water unless " + cond + ";");
            d.due("3 does not hold: " + cond, d.owed(0, 25), 100);
        }
        // AMOUNTS as they are CORRECTED
        d.clauses(0, "in water unless amount 499;");
        o.correct(0, 25, 0, 0, 299, 0);
        d.due("3 as corrected", d.owed(0, 25), 100);
    }

    private static void waits() {
        Desk d = new Desk(check);
        Office o = d.office;
        o.person();
        o.policy(1, 0, 100, 300);
        o.period(0, 0, 1000);
        int early = d.claim(THEFT, 102, 100, 100);
        int late = d.claim(THEFT, 103, 100, 100);
        int fire = d.claim(FIRE, 100, 100, 100);
        d.dueRows(early, 103, "0 f0 | 0 0 100 | 2 3 -100");
        d.dueRows(late, 103, "100 f0 | 0 0 100");
        d.due("13 an earlier notice", fire, -4);
        d.clauses(0, "wait 2;");
        d.dueRows(early, 103, "0 f0 | 0 0 100 | 2 3 -100");
        d.clauses(0, "wait 9; wait 4;");
        d.dueRows(late, 103, "0 f0 | 0 0 100 | 2 4 -100");
        d.clauses(0, "wait 999999999;");
        d.dueRows(late, 103, "0 f0 | 0 0 100 | 2 999999999 -100");
        // CROP waits 14 days, TRANSPORT 2 if it IS WATER
        for (int kind : new int[] {4, 5}) {
            d = new Desk(check);
            o = d.office;
            o.person();
            o.policy(kind, 0, 100, 300);
            o.period(0, 0, 1000);
            int days = kind == 4 ? 14 : 2;
            int first = d.claim(kind == 4 ? STORM : WATER, 99 + days, 100, 100);
            int second = d.claim(kind == 4 ? STORM : WATER, 100 + days, 100, 100);
            d.dueRows(first, 200, "0 f0 | 0 0 100 | 2 " + days + " -100");
            d.dueRows(second, 200, kind == 4 ? "100 f0 | 0 0 100" : "95 f0 | 0 0 100 | 4 5 -5");
        }
    }

    private static void averages() {
        Desk d = Desk.with(check, 0, 700);
        int c = d.claim(FIRE, 20, 500, 1000);
        d.dueRows(c, 20, "350 f0 | 0 0 500 | 3 0 -150");
        d.office.correct(c, 21, 0, 1, 699, 0);
        d.dueRows(c, 21, "500 f0 | 0 0 500");
        d.office.correct(c, 22, 0, 1, 701, 0);
        d.dueRows(c, 22, "499 f0 | 0 0 500 | 3 0 -1");
        d.office.correct(c, 23, 0, 1, 0, 0);
        d.dueRows(c, 23, "none f4 | 0 0 0");

        d = Desk.with(check, 2, 700);
        c = d.claim(FIRE, 20, 500, 1000);
        d.dueRows(c, 20, "500 f0 | 0 0 500");
        d.clauses(0, "average;");
        d.dueRows(c, 20, "350 f0 | 0 0 500 | 3 0 -150");
    }

    private static void ownAndLimit() {
        Desk d = Desk.with(check, 2, 0);
        int c = d.claim(THEFT, 20, 1000, 1000);
        d.clauses(0, "own loss 100; loss 700;");
        d.dueRows(c, 20, "700 f0 | 0 0 1000 | 4 10 -100 | 5 0 -100 | 6 0 -100");
        d.clauses(0, "loss 0; own loss 0; loss 800; own loss 50; loss 850;");
        d.dueRows(c, 20, "850 f0 | 0 0 1000 | 4 10 -100 | 5 0 -50");
        d.clauses(0, "own loss 5000;");
        d.dueRows(c, 20, "0 f0 | 0 0 1000 | 4 10 -100 | 5 0 -900");
        d.clauses(0, "loss 0;");
        d.dueRows(c, 20, "0 f0 | 0 0 1000 | 4 10 -100 | 6 0 -900");
    }

    private static Desk sharing(int rule, long worth, long... alone) {
        Desk d = Desk.with(check, 2, 0);
        d.office.shareRule(0, rule);
        d.claim(FIRE, 20, worth, worth);
        for (int i = 0; i < alone.length; i++) {
            d.office.share(0, 20, i + 1, alone[i]);
        }
        return d;
    }

    private static void sharesByAlone() {
        // 100 of 100, 100 and 100: 33 each, the cent goes to this office
        sharing(0, 100, 100, 100).dueRows(0, 20, "34 f0 | 0 0 100 | 7 2 -66");
        // 100 by 100 : 50 : 7: 63, 31, 4; two cents by RANKS
        Desk d = sharing(0, 100, 50, 7);
        d.dueRows(0, 20, "64 f0 | 0 0 100 | 7 2 -36");
        d.office.rank(0, 5);
        d.dueRows(0, 20, "63 f0 | 0 0 100 | 7 2 -37");
        // T is the sum of all ALONE, if that is less than WORTH: each has its own
        d = sharing(0, 100, 20);
        d.clauses(0, "loss 50;");
        d.dueRows(0, 20, "50 f0 | 0 0 100 | 6 0 -50");
        // an ALONE of 0 gets no cent
        sharing(0, 100, 0, 100, 100).dueRows(0, 20, "34 f0 | 0 0 100 | 7 3 -66");
        // nothing at all
        d = sharing(0, 100, 0);
        d.clauses(0, "loss 0;");
        d.dueRows(0, 20, "none f4 | 0 0 100 | 6 0 -100");
        d.office.shareRule(0, 1);
        d.dueRows(0, 20, "0 f0 | 0 0 100 | 6 0 -100");
        d.office.shareRule(0, 2);
        d.dueRows(0, 20, "0 f0 | 0 0 100 | 6 0 -100");
    }

    private static void sharesByRounds() {
        // round 1 gives 33, 10 and 33, round 2 12 and 12
        sharing(1, 100, 10, 90).dueRows(0, 20, "45 f0 | 0 0 100 | 7 2 -55");
        // two cents for three
        Desk d = sharing(1, 2, 2, 2);
        d.dueRows(0, 20, "1 f0 | 0 0 2 | 7 2 -1");
        d.office.rank(0, 9);
        d.dueRows(0, 20, "0 f0 | 0 0 2 | 7 2 -2");
        // 101 of 101, 101: 50 each and a cent
        d = sharing(1, 101, 101);
        d.dueRows(0, 20, "51 f0 | 0 0 101 | 7 1 -50");
        d.office.rank(1, 0);
        d.office.rank(0, 1);
        d.dueRows(0, 20, "50 f0 | 0 0 101 | 7 1 -51");
    }

    private static void sharesByRanks() {
        Desk d = sharing(2, 100, 30, 60);
        d.dueRows(0, 20, "100 f0 | 0 0 100");
        d.office.rank(0, 1);
        d.dueRows(0, 20, "100 f0 | 0 0 100");
        d.office.rank(0, 2);
        d.dueRows(0, 20, "70 f0 | 0 0 100 | 7 2 -30");
        d.office.rank(0, 3);
        d.dueRows(0, 20, "10 f0 | 0 0 100 | 7 2 -90");
    }

    private static void yearsByNotice() {
        Desk d = Desk.with(check, 2, 0);
        Office o = d.office;
        d.clauses(0, "own year 150; year 300;");
        int first = d.claim(FIRE, 20, 100, 100);
        int second = d.claim(FIRE, 20, 200, 200);
        int other = d.claim(FIRE, 365, 400, 400);
        int third = o.notify(0, -1, 0, 365);
        int fourth = o.notify(0, -1, 1, 366);
        d.dueRows(first, 366, "0 f0 | 0 0 100 | 8 0 -100");
        d.dueRows(second, 366, "150 f0 | 0 0 200 | 8 0 -50");
        d.dueRows(other, 366, "250 f0 | 0 0 400 | 8 0 -150");
        d.dueRows(third, 366, "100 f0 | 0 0 100");
        d.dueRows(fourth, 366, "50 f0 | 0 0 200 | 9 0 -150");
        d.clauses(0, "own year 150; year 300; by notice;");
        d.dueRows(fourth, 366, "50 f0 | 0 0 200 | 9 0 -150");
        d.clauses(0, "year 120;");
        d.dueRows(second, 366, "20 f0 | 0 0 200 | 9 0 -180");
        d.dueRows(fourth, 366, "0 f0 | 0 0 200 | 9 0 -200");
        // salvage comes behind: it makes no room for others
        o.salvage(first, 366, 100);
        d.dueRows(second, 366, "20 f0 | 0 0 200 | 9 0 -180");
        // each has its s as CORRECTED by that day
        o.correct(first, 366, 0, 0, 70, 366);
        d.dueRows(second, 365, "20 f0 | 0 0 200 | 9 0 -180");
        d.dueRows(second, 366, "50 f0 | 0 0 200 | 9 0 -150");
    }

    private static void yearsByLoss() {
        Desk d = Desk.with(check, 2, 0);
        Office o = d.office;
        d.clauses(0, "year 250; by notice; by loss;");
        int[] days = {30, 20, 30, 10};
        for (int i = 0; i < 4; i++) {
            o.loss(FIRE, days[i]);
            o.item(i, 0, 100, 100);
            o.notify(0, -1, i, 40 + i);
        }
        // on day 41 the last two were not notified yet
        d.due("9 the first", d.owed(0, 41), 100);
        d.due("9 the second", d.owed(1, 41), 100);
        // 3 (day 10), 1 (day 20), 0 and 2 (day 30)
        d.due("9 by loss", d.owed(0, 43), 50);
        d.due("9 by loss", d.owed(1, 43), 100);
        d.due("9 by loss", d.owed(2, 43), 0);
        d.due("9 by loss", d.owed(3, 43), 100);
        o.close(2, 50);
        d.due("9 not closed yet", d.owed(2, 49), 0);
        d.due("9 those that are not open first", d.owed(2, 50), 100);
        d.due("9 then by loss", d.owed(3, 50), 100);
        d.due("9 then by loss", d.owed(1, 50), 50);
        d.due("9 then by loss", d.owed(0, 50), 0);
        d.due("9 as known before", o.owed(0, 50, (int) d.now() - 1), 50);
        o.close(0, 51);
        d.due("9 not open, as they came", d.owed(0, 51), 100);
        d.due("9 not open, as they came", d.owed(2, 51), 100);
        o.reopen(2, 52, 0);
        d.due("9 open again", d.owed(2, 52), 0);
    }

    private static void othersWithFindings() {
        Desk d = Desk.with(check, 3, 0);
        Office o = d.office;
        int third = d.claim(THIRD, 20, 100, 100);
        int fire = d.claim(FIRE, 20, 100, 100);
        int none = o.notify(0, -1, o.loss(THIRD, 20), 20);
        d.dueRows(third, 20, "100 f0 | 0 0 100");
        d.due("41 others are not worked", o.count(10), 0);
        d.clauses(0, "year 100;");
        d.dueRows(third, 20, "100 f0 | 0 0 100");
        d.due("41 of others that are laid, too", o.count(10), 1);
        d.due("29 not their trace", d.trace(), "94 80 1 2 13");
        d.dueRows(none, 20, "0 f0 | 0 0 0 | 1 -1 0");
        d.due("41 nothing is laid for what is out", o.count(10), 1);
        d.dueRows(fire, 20, "none f2 | 0 0 100");
        d.due("41 its own alone", o.count(10), 2);
        d.due("15 pay", o.pay(third, 20, 200), MUCH);
        d.due("41 by pay() that is refused, too", o.count(10), 3);
    }

    private static void interest() {
        Desk d = Desk.with(check, 2, 0);
        Office o = d.office;
        d.clauses(0, "interest 9; interest 3650;");
        // a thousandth of s a day
        int c = d.claim(FIRE, 10, 1000, 1000);
        d.dueRows(c, 10, "1000 f0 | 0 0 1000");
        d.dueRows(c, 15, "1005 f0 | 0 0 1000 | 11 0 5");
        o.salvage(c, 15, 501);
        // behind row 10: 499 a day, and of the whole sum what is below a cent is lost
        d.dueRows(c, 15, "501 f0 | 0 0 1000 | 10 0 -501 | 11 0 2");
        d.dueRows(c, 20, "503 f0 | 0 0 1000 | 10 0 -501 | 11 0 4");
        o.pay(c, 20, 503);
        o.salvage(c, 21, 100);
        // what was paid beyond s counts as 0, not as less
        d.dueRows(c, 30, "-100 f0 | 0 0 1000 | 10 0 -601 | 11 0 4 | 12 0 -503");
    }

    private static void findings() {
        Desk d = new Desk(check);
        Office o = d.office;
        o.person();
        o.policy(2, 0, 0, 800);
        int c = d.claim(FIRE, 10, 1000, 1000);
        d.dueRows(c, 10, "none f1");
        d.due("30 nothing to say", o.say(), 0);
        o.period(0, 1, 5);
        d.dueRows(c, 10, "none f1");
        o.period(0, 0, 5);
        d.dueRows(c, 10, "1000 f0 | 0 0 1000");
        d.due("25 known then", o.owed(c, 10, (int) d.now() - 1), NO_ANSWER);
        d.due("26 its finding", o.finding(), 1);
        d.due("41 findings", o.count(10), 3);
        d.due("26 asked again", d.owed(c, 10), 1000);
        d.due("26 none", o.finding(), 0);
    }

    private static void great() {
        // 2^31 times 2^31 is just not beyond 2^62
        long half = 1L << 31;
        Desk d = Desk.with(check, 0, half);
        int c = d.claim(FIRE, 20, half, half);
        d.dueRows(c, 20, half + " f0 | 0 0 " + half);
        d = Desk.with(check, 0, half);
        c = d.claim(FIRE, 20, half + 1, half + 1);
        d.dueRows(c, 20, "none f5 | 0 0 " + (half + 1));
        // a product is worked ahead of its division: GREAT, not NOUGHT
        d = Desk.with(check, 2, MOST);
        d.clauses(0, "average;");
        c = d.claim(THIRD, 20, MOST, 0);
        d.dueRows(c, 20, "none f5 | 0 0 " + MOST);
        // shares
        d = sharing(0, half, half);
        d.dueRows(0, 20, half / 2 + " f0 | 0 0 " + half + " | 7 1 " + -half / 2);
        d = sharing(0, half + 1, half);
        d.dueRows(0, 20, "none f5 | 0 0 " + (half + 1));
        d.office.shareRule(0, 1);
        d.dueRows(0, 20, (half / 2 + 1) + " f0 | 0 0 " + (half + 1) + " | 7 1 " + -half / 2);
        // interest; rows told by then stay, and 10 paid nothing
        d = Desk.with(check, 2, 0);
        d.clauses(0, "interest 999999999; own loss 1;");
        c = d.claim(FIRE, 0, 4611686024L, MOST);
        d.due("11 not beyond", d.owed(c, 1), 4611686023L + 1263475621476L);
        d = Desk.with(check, 2, 0);
        d.clauses(0, "interest 999999999; own loss 1;");
        c = d.claim(FIRE, 0, 4611686024L + 1, MOST);
        d.dueRows(c, 1, "none f5 | 0 0 4611686025 | 5 0 -1");
        d.dueRows(c, 0, "4611686024 f0 | 0 0 4611686025 | 5 0 -1");
    }

    private static void manyFindings() {
        Desk d = Desk.with(check, 3, 0);
        Office o = d.office;
        d.clauses(0, "year 5;");
        int third = d.claim(THIRD, 20, 100, 100);
        for (int i = 0; i < 99; i++) {
            o.notify(0, -1, o.loss(FIRE, 20), 20);
        }
        int now = (int) d.now();
        for (int i = 1; i <= 25; i++) {
            d.due("25 owed", o.owed(third, 20, now), 5);
            d.due("41 findings", o.count(10), 99 * i);
        }
        for (int i = 2475; i < 2500; i++) {
            d.due("25 a finding", o.owed(1, 20, now), NO_ANSWER);
        }
        d.due("26 looked at", o.finding(), 2);
        d.due("41 findings", o.count(10), 2500);
        o.owed(third, 20, now);
        d.due("25 as bad: the other is still looked at", o.finding(), 2);
        d.due("25 as bad", o.owed(third, 20, now), NO_ANSWER);
        d.due("15 full", o.pay(third, 20, 5), FULL);
        d.due("15 full ahead of much", o.pay(third, 20, 500), FULL);
        d.due("15 behind bad", o.pay(third, 20, 0), BAD);
        d.due("14 other facts go on", o.reserve(third, 20, 0, 5), 1);
        d.due("41 findings", o.count(10), 2500);
    }
}
