/** Promises 14 to 24: FACTS of cases, and BATCHES. */
public final class FactsTest {
    private static final int NONE = -1, BAD = -2, STATE = -3, DAY = -4, LATE = -5, MUCH = -6, FULL = -7, HELD = -8;
    private static final int LOWEST = Integer.MIN_VALUE, HIGHEST = Integer.MAX_VALUE;
    private static final long MOST = 1000000000000L;
    private static final Check check = new Check();

    public static void main(String[] args) {
        reserves();
        fortyFacts();
        payments();
        paymentsOfInterest();
        paymentsWithinTheYear();
        closings();
        reopenings();
        corrections();
        sharings();
        salvages();
        recourses();
        batches();
        undoneBatches();
        fullBatches();
        check.done();
    }

    private static Desk car() {
        return Desk.with(check, 2, 0);
    }

    private static void reserves() {
        Desk d = car();
        Office o = d.office;
        int c = d.claim(0, 100, 1000, 1000);
        d.due("14 no case", o.reserve(1, 100, 0, 5), BAD);
        d.due("14 no case", o.reserve(-1, 100, 0, 5), BAD);
        d.due("14 no day", o.reserve(c, -1, 0, 5), BAD);
        d.due("14 no day", o.reserve(c, 10950, 0, 5), BAD);
        d.due("14 kind", o.reserve(c, 100, -1, 5), BAD);
        d.due("14 kind", o.reserve(c, 100, 3, 5), BAD);
        d.due("14 cents", o.reserve(c, 100, 0, -1), BAD);
        d.due("14 cents", o.reserve(c, 100, 0, MOST + 1), BAD);
        d.due("14 ahead of the notice", o.reserve(c, 99, 0, 5), DAY);
        d.due("14 reserve", o.reserve(c, 105, 2, MOST), 1);
        d.due("14 ahead of the fact before", o.reserve(c, 104, 0, 5), DAY);
        d.due("14 reserve nothing", o.reserve(c, 105, 0, 0), 1);
        d.due("14 facts", o.of(c, 5), 2);
        o.close(c, 105);
        d.due("14 not open", o.reserve(c, 104, 0, 5), STATE);
        d.due("14 bad ahead of it", o.reserve(c, 105, 3, 5), BAD);
        d.due("14 reserved changes nothing owed", d.owed(c, 105), 1000);
    }

    private static void fortyFacts() {
        Desk d = car();
        Office o = d.office;
        int c = d.claim(0, 100, 1000, 1000);
        for (int i = 0; i < 40; i++) {
            d.due("14 fact", o.reserve(c, 100 + i, 0, i), 1);
        }
        d.due("14 the 41st", o.reserve(c, 139, 0, 5), FULL);
        d.due("14 a day ahead, too", o.reserve(c, 138, 0, 5), DAY);
        d.due("15 too much, ahead of full", o.pay(c, 139, 1001), MUCH);
        d.due("15 full", o.pay(c, 139, 1000), FULL);
        d.due("21 too much, ahead of full", o.recourse(c, 139, 1), MUCH);
        d.due("21 full", o.recourse(c, 139, 0), FULL);
        d.due("16 full", o.close(c, 139), FULL);
        d.due("14 facts", o.of(c, 5), 40);
    }

    private static void payments() {
        Desk d = car();
        Office o = d.office;
        int c = d.claim(0, 100, 1000, 1000);
        d.due("15 no case", o.pay(7, 100, 5), BAD);
        d.due("15 no day", o.pay(c, 10950, 5), BAD);
        d.due("15 nothing", o.pay(c, 100, 0), BAD);
        d.due("15 less than nothing", o.pay(c, 100, -1), BAD);
        d.due("15 cents", o.pay(c, 100, MOST + 1), BAD);
        d.due("15 ahead of the notice", o.pay(c, 99, 5), DAY);
        d.due("15 more than is owed", o.pay(c, 100, 1001), MUCH);
        d.due("15 some", o.pay(c, 110, 400), 1);
        d.due("15 more than is left", o.pay(c, 110, 601), MUCH);
        d.due("15 the rest", o.pay(c, 110, 600), 1);
        d.due("15 one more", o.pay(c, 110, 1), MUCH);
        d.dueRows(c, 110, "0 f0 | 0 0 1000 | 12 0 -1000");
        d.dueRows(c, 109, "1000 f0 | 0 0 1000");
        d.due("15 as known between", o.owed(c, 110, (int) d.now() - 1), 600);
        d.due("15 paying does not look", o.row(1, 0), 12);

        int out = d.claim(1, 120, 1000, 1000);
        d.due("15 what is out", o.pay(out, 120, 1), MUCH);
        d.due("15 no finding", o.count(10), 0);
        int outside = d.claim(0, 1095, 10, 10);
        d.due("15 with a finding", o.pay(outside, 1095, 1), MUCH);
        d.due("15 it is counted", o.count(10), 1);
    }

    private static void paymentsOfInterest() {
        // 36500 cents at 1000 of 10000 a year: 10 cents a day
        Desk d = car();
        Office o = d.office;
        d.clauses(0, "interest 1000; year 40000;");
        int c = d.claim(0, 0, 36500, 36500);
        d.dueRows(c, 10, "36600 f0 | 0 0 36500 | 11 0 100");
        d.due("15 interest", o.pay(c, 10, 60), 1);
        d.due("33 nothing of it is used", o.used(0, 0, (int) d.now()), 0);
        d.due("15 interest and more", o.pay(c, 10, 18290), 1);
        d.due("33 used", o.used(0, 0, (int) d.now()), 18250);
        d.due("34 left", o.left(0, 0, (int) d.now()), 21750);
        d.due("36 interest too", o.run(0, 0, 0, (int) d.now()), 18350);
        // day 10 is still gone over with all of s, the days behind it with the half of it
        d.dueRows(c, 11, "18260 f0 | 0 0 36500 | 11 0 110 | 12 0 -18350");
        d.dueRows(c, 13, "18270 f0 | 0 0 36500 | 11 0 120 | 12 0 -18350");
        d.due("15 one too much", o.pay(c, 13, 18271), MUCH);
        d.due("15 the rest", o.pay(c, 13, 18270), 1);
        d.due("33 used", o.used(0, 0, (int) d.now()), 36500);
        // less interest is due than was paid: all of it is of s
        o.correct(c, 13, 0, 0, 73000, 0);
        o.correct(c, 13, 0, 1, 73000, 0);
        d.clauses(0, "interest 100; year 100000;");
        d.dueRows(c, 13, "36405 f0 | 0 0 73000 | 11 0 25 | 12 0 -36620");
        d.due("15 of s alone", o.pay(c, 13, 7), 1);
        d.due("33 used", o.used(0, 0, (int) d.now()), 36507);
    }

    private static void paymentsWithinTheYear() {
        Desk d = car();
        Office o = d.office;
        d.clauses(0, "year 1000;");
        int first = d.claim(0, 50, 800, 800);
        int second = d.claim(0, 40 + 10, 700, 700);
        d.dueRows(second, 60, "200 f0 | 0 0 700 | 9 0 -500");
        d.due("15 the first", o.pay(first, 60, 800), 1);
        d.clauses(0, "year 1000; by loss;");
        o.close(first, 61);
        d.due("15 within what is left", o.pay(second, 61, 200), 1);
        // those that are not open are laid first, but what was paid is used all the same
        d.clauses(0, "year 900; by loss;");
        d.due("34 less than nothing is left", o.left(0, 0, (int) d.now()), -100);
        d.clauses(0, "year 1000; by loss;");
        o.correct(second, 61, 0, 0, 700, 0);
        d.due("15 more than is left", o.pay(second, 61, 1), MUCH);
        o.reopen(first, 62, 0);
        o.salvage(first, 62, 100);
        d.due("15 nothing more of s", o.pay(second, 62, 1), MUCH);
        o.recourse(first, 62, 500);
        d.due("33 recourse makes room", o.used(0, 0, (int) d.now()), 500);
        d.due("15 but not more is owed", o.pay(second, 62, 1), MUCH);

        // a later loss told first: laid behind by loss, yet what it was paid is used
        d = car();
        o = d.office;
        d.clauses(0, "year 1000; by loss;");
        o.loss(0, 20);
        o.item(0, 0, 900, 900);
        o.loss(0, 10);
        o.item(1, 0, 900, 900);
        o.notify(0, NONE, 0, 30);
        d.due("15 the later loss", o.pay(0, 30, 900), 1);
        o.notify(0, NONE, 1, 30);
        d.dueRows(1, 30, "900 f0 | 0 0 900");
        d.due("15 of s more than is left", o.pay(1, 30, 101), MUCH);
        d.due("15 what is left", o.pay(1, 30, 100), 1);
    }

    private static void closings() {
        Desk d = car();
        Office o = d.office;
        int c = d.claim(0, 100, 1000, 1000);
        d.due("16 open at first", o.of(c, 4), 1);
        d.due("16 no case", o.close(LOWEST, 100), BAD);
        d.due("16 no day", o.close(c, HIGHEST), BAD);
        d.due("16 ahead of the notice", o.close(c, 99), DAY);
        d.due("16 close", o.close(c, 110), 1);
        d.due("16 closed", o.of(c, 4), 0);
        d.due("16 twice", o.close(c, 110), STATE);
        d.due("16 pay", o.pay(c, 110, 5), STATE);
        d.due("16 correct", o.correct(c, 110, 0, 0, 5, 5), STATE);
        d.due("16 share", o.share(c, 110, 1, 5), STATE);
        d.due("16 salvage", o.salvage(c, 110, 5), STATE);
        d.due("16 recourse", o.recourse(c, 110, 0), STATE);
    }

    private static void reopenings() {
        Desk d = car();
        Office o = d.office;
        int c = d.claim(0, 100, 1000, 1000);
        d.due("17 open", o.reopen(c, 100, 2), STATE);
        d.due("17 ground", o.reopen(c, 100, 3), BAD);
        d.due("17 ground", o.reopen(c, 100, -1), BAD);
        o.close(c, 110);
        d.due("17 ahead of the closing", o.reopen(c, 109, 0), DAY);
        d.due("17 31 days by 0", o.reopen(c, 141, 0), LATE);
        d.due("17 30 days by 0", o.reopen(c, 140, 0), 1);
        d.due("17 open", o.of(c, 4), 1);
        o.close(c, 150);
        d.due("17 366 days by 1", o.reopen(c, 516, 1), LATE);
        d.due("17 365 days by 1", o.reopen(c, 515, 1), 1);
        o.close(c, 520);
        d.due("17 at any time by 2", o.reopen(c, 10949, 2), 1);
        d.due("17 facts", o.of(c, 5), 6);
    }

    private static void corrections() {
        Desk d = Desk.with(check, 2, 0);
        Office o = d.office;
        o.loss(0, 100);
        o.item(0, 0, 1000, 1000);
        o.item(0, 0, 500, 400);
        o.part(0, 50);
        int c = o.notify(0, NONE, 0, 100);
        int p = o.notify(0, NONE, 1, 100);
        d.due("18 no item", o.correct(c, 100, 2, 0, 5, 0), BAD);
        d.due("18 no item", o.correct(c, 100, -1, 0, 5, 0), BAD);
        d.due("18 what", o.correct(c, 100, 0, 2, 5, 0), BAD);
        d.due("18 what", o.correct(c, 100, 0, -1, 5, 0), BAD);
        d.due("18 cents", o.correct(c, 100, 0, 0, -1, 0), BAD);
        d.due("18 cents", o.correct(c, 100, 0, 0, MOST + 1, 0), BAD);
        d.due("18 from", o.correct(c, 100, 0, 0, 5, -1), BAD);
        d.due("18 from", o.correct(c, 100, 0, 0, 5, 10950), BAD);
        d.due("18 ahead of the notice", o.correct(c, 99, 0, 0, 5, 0), DAY);
        d.due("18 as told", d.owed(c, 100), 1400);
        d.due("18 an amount", o.correct(c, 110, 0, 0, 700, 120), 1);
        d.due("18 not yet", d.owed(c, 119), 1400);
        d.due("18 from its day on", d.owed(c, 120), 1100);
        d.due("18 from an earlier day", o.correct(c, 111, 0, 0, 600, 105), 1);
        d.due("18 not yet told", d.owed(c, 110), 1400);
        d.due("18 the earlier one", d.owed(c, 111), 1000);
        d.due("18 the later one", d.owed(c, 120), 1100);
        d.due("18 told last of one day", o.correct(c, 112, 0, 0, 650, 120), 1);
        d.due("18 the one told last", d.owed(c, 120), 1050);
        d.due("18 as known before", o.owed(c, 120, (int) d.now() - 1), 1100);
        d.due("18 a value", o.correct(c, 112, 1, 1, 100, 0), 1);
        d.due("18 both", d.owed(c, 120), 750);
        d.due("18 in this case alone", d.owed(p, 120), 700);
        d.due("18 an item of the whole", o.correct(p, 120, 1, 1, 450, 0), 1);
        d.due("18 in the part", d.owed(p, 120), 725);
        d.due("18 not in the other", d.owed(c, 120), 750);
    }

    private static void sharings() {
        Desk d = car();
        Office o = d.office;
        int c = d.claim(0, 100, 1000, 1000);
        d.due("19 this office", o.share(c, 100, 0, 5), BAD);
        d.due("19 no insurer", o.share(c, 100, 6, 5), BAD);
        d.due("19 cents", o.share(c, 100, 1, -1), BAD);
        d.due("19 cents", o.share(c, 100, 1, MOST + 1), BAD);
        d.due("19 ahead of the notice", o.share(c, 99, 1, 5), DAY);
        d.due("19 nothing", o.share(c, 100, 5, 0), 1);
        d.dueRows(c, 100, "1000 f0 | 0 0 1000");
        d.due("19 as much", o.share(c, 110, 1, 1000), 1);
        d.dueRows(c, 110, "500 f0 | 0 0 1000 | 7 2 -500");
        d.due("19 not behind that day", d.owed(c, 109), 1000);
        d.due("19 told anew", o.share(c, 110, 1, 3000), 1);
        d.dueRows(c, 110, "250 f0 | 0 0 1000 | 7 2 -750");
    }

    private static void salvages() {
        Desk d = car();
        Office o = d.office;
        int c = d.claim(0, 100, 1000, 1000);
        d.due("20 cents", o.salvage(c, 100, -1), BAD);
        d.due("20 cents", o.salvage(c, 100, MOST + 1), BAD);
        d.due("20 ahead of the notice", o.salvage(c, 99, 1), DAY);
        d.due("20 nothing", o.salvage(c, 100, 0), 1);
        d.due("20 some", o.salvage(c, 110, 300), 1);
        d.due("20 more", o.salvage(c, 120, 300), 1);
        d.dueRows(c, 119, "700 f0 | 0 0 1000 | 10 0 -300");
        d.dueRows(c, 120, "400 f0 | 0 0 1000 | 10 0 -600");
        d.due("20 pay", o.pay(c, 120, 400), 1);
        d.due("20 more than s", o.salvage(c, 121, 900), 1);
        d.dueRows(c, 121, "-400 f0 | 0 0 1000 | 10 0 -1000 | 12 0 -400");
    }

    private static void recourses() {
        Desk d = car();
        Office o = d.office;
        int c = d.claim(0, 100, 1000, 1000);
        d.due("21 cents", o.recourse(c, 100, -1), BAD);
        d.due("21 cents", o.recourse(c, 100, MOST + 1), BAD);
        d.due("21 ahead of the notice", o.recourse(c, 99, 0), DAY);
        d.due("21 nothing", o.recourse(c, 100, 0), 1);
        d.due("21 of nothing", o.recourse(c, 100, 1), MUCH);
        o.pay(c, 100, 500);
        d.due("21 more than was paid", o.recourse(c, 100, 501), MUCH);
        d.due("21 some", o.recourse(c, 100, 300), 1);
        d.due("21 all of the case", o.recourse(c, 100, 201), MUCH);
        d.due("21 the rest", o.recourse(c, 100, 200), 1);
        d.due("21 used", o.used(0, 0, (int) d.now()), 0);
        d.due("21 owed stays", d.owed(c, 100), 500);

        d = car();
        o = d.office;
        d.clauses(0, "interest 1000;");
        c = d.claim(0, 0, 36500, 36500);
        o.pay(c, 10, 150);
        d.due("21 of s alone", o.recourse(c, 10, 51), MUCH);
        d.due("21 of s", o.recourse(c, 10, 50), 1);
    }

    private static void batches() {
        Desk d = car();
        Office o = d.office;
        int c = d.claim(0, 100, 1000, 1000);
        long now = d.now();
        d.due("23 none is under way", o.end(), STATE);
        d.due("24 none is under way", o.undo(), STATE);
        d.due("22 batch", o.batch(), 1);
        d.due("22 begun", o.count(5), 1);
        d.due("22 another", o.batch(), STATE);
        d.due("22 write", o.write(), STATE);
        d.due("22 takeIn", o.takeIn(), STATE);
        d.due("22 a bad policy", o.policy(99, 99, 99, 99), STATE);
        d.due("22 part", o.part(0, 50), STATE);
        d.due("22 held", o.pay(c, 100, 600), HELD);
        d.due("22 held", o.close(c, 100), HELD);
        d.due("22 held", o.reopen(c, 100, 0), HELD);
        d.due("22 held", o.correct(c, 100, 0, 0, 1100, 0), HELD);
        d.due("22 held now", o.count(7), 4);
        d.due("22 not done", o.of(c, 5), 0);
        d.due("22 no moment", d.now(), now);
        d.due("22 asking goes on", d.owed(c, 100), 1000);
        d.due("23 end", o.end(), 4);
        d.due("23 done", o.of(c, 5), 4);
        d.due("23 moments", d.now(), now + 4);
        d.due("23 as known between", o.owed(c, 100, (int) now + 1), 400);
        d.due("23 tries", o.count(6), 1);
        d.due("23 held now", o.count(7), 0);
        d.due("23 over", o.end(), STATE);
        d.due("22 the second", o.batch(), 2);
        d.due("23 with nothing", o.end(), 0);
        d.due("22 the third", o.batch(), 3);
        o.reserve(c, 100, 0, 7);
        d.due("24 undo", o.undo(), 1);
        d.due("24 tries", o.count(6), 3);
        d.due("24 no facts", o.of(c, 5), 4);
        d.due("24 no moment", d.now(), now + 4);
    }

    private static void undoneBatches() {
        Desk d = car();
        Office o = d.office;
        int c = d.claim(0, 100, 1000, 1000);
        int other = d.claim(0, 100, 500, 500);
        o.reserve(other, 100, 0, 9);
        long now = d.now();
        o.batch();
        o.pay(c, 105, 600);
        o.pay(other, 105, 500);
        o.close(other, 106);
        o.pay(c, 105, 401);
        o.pay(c, 105, 1);
        d.due("23 the fourth is refused", o.end(), -23);
        d.due("23 all are undone", o.of(c, 5), 0);
        d.due("23 of others, too", o.of(other, 5), 1);
        d.due("23 open again", o.of(other, 4), 1);
        d.due("23 moments are not given again", d.now(), now + 3);
        d.due("23 owed", d.owed(c, 105), 1000);
        d.due("23 used", o.used(0, 0, (int) d.now()), 0);
        d.due("23 tries", o.count(6), 1);
        d.due("23 the day before holds", o.reserve(other, 100, 0, 9), 1);
        d.due("23 its moment", d.now(), now + 4);
        o.batch();
        o.close(LOWEST, HIGHEST);
        d.due("23 the first is refused", o.end(), -20);

        int outside = d.claim(0, 1095, 10, 10);
        o.batch();
        o.pay(outside, 1095, 5);
        d.due("23 refused by a finding", o.end(), -20);
        d.due("23 it is counted", o.count(10), 1);
    }

    private static void fullBatches() {
        Desk d = car();
        Office o = d.office;
        d.claim(0, 100, 1000, 1000);
        o.batch();
        for (int i = 0; i < 60; i++) {
            d.due("22 held", o.reserve(0, 100, 99, Long.MIN_VALUE), HELD);
        }
        d.due("22 the 61st", o.reserve(0, 100, 0, 1), FULL);
        d.due("22 held now", o.count(7), 60);
        d.due("24 undo", o.undo(), 60);
        o.batch();
        for (int i = 0; i < 41; i++) {
            o.reserve(0, 100, 0, i);
        }
        d.due("23 the 41st of a case", o.end(), -60);
        d.due("23 all are undone", o.of(0, 5), 0);
    }
}
