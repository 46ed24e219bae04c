import java.util.function.Consumer;

/** The document's first lines: what the class is, piece by piece; then one office that does every act, written out. */
public final class WholeTest {
    private static final int NONE = -1, DAY = -4, MUCH = -6, HELD = -8;
    private static final int FIRE = 0, WATER = 1, THEFT = 2, STORM = 3, THIRD = 4;
    private static final int CONTENTS = 1, CAR = 2, LIABILITY = 3, TRANSPORT = 5, BUNDLE = 6;
    private static final long NO_ANSWER = ClaimsOffice.NO_ANSWER;
    private static final int MOST_CALLS = 512;
    private static final Check check = new Check();

    public static void main(String[] args) {
        twoTimes();
        bodiesOfKinds();
        placesWithNothing();
        clausesAsTexts();
        factsFromAMomentOn();
        rowByRow();
        twoOrders();
        toTheCent();
        whollyOrNotAtAll();
        runsWithFactors();
        writtenOutAndTakenIn();
        lastCall();
        behindTheLastCall();
        check.done();
    }

    // ---- the first sentence, piece by piece

    private static void twoTimes() {
        check.sentence("An insurer's claims in two times:");
        Desk d = Desk.with(check, CAR, 0);
        d.claim(FIRE, 5, 1000, 1000);
        Office o = d.office;
        int notified = o.count(4);
        o.salvage(0, 20, 100);
        o.correct(0, 30, 0, 0, 600, 15);
        int[] days = {5, 19, 20, 29, 30, 10949};
        long[][] due = {{1000, 1000, 1000, 1000, 1000, 1000}, {1000, 1000, 900, 900, 900, 900},
            {1000, 1000, 900, 900, 500, 500}};
        for (int later = 0; later < due.length; later++) {
            for (int i = 0; i < days.length; i++) {
                d.due("on day " + days[i] + " as known " + later + " acts behind the notice",
                        o.owed(0, days[i], notified + later), due[later][i]);
            }
        }
    }

    private static void bodiesOfKinds() {
        check.sentence("policies and losses by kinds whose bodies come of one another,");
        Desk d = Desk.with(check, CONTENTS, 1000);
        d.claim(FIRE, 5, 1000, 1000);
        d.owed(0, 5);
        d.due("contents ask a dwelling's, that asks a property's", d.trace(), "104 40 95 30 95 95 20 95 41 95 42 95 22 13");
        Desk t = Desk.with(check, TRANSPORT, 1000);
        t.claim(THEFT, 5, 1099, 1099);
        t.dueRows(0, 5, "850 f0 | 0 0 1000 | 4 15 -150");
        t.due("a transport asks a car's, a theft asks a damage's", t.trace(), "114 104 70 95 95 60 95 95 71 95 2 73 63 95");
    }

    private static void placesWithNothing() {
        check.sentence("bundles with places that may hold nothing,");
        Desk d = Desk.with(check, CAR, 0);
        Office o = d.office;
        o.policy(BUNDLE, 0, 0, 5);
        o.loss(FIRE, 8);
        o.item(0, 0, 70, 70);
        o.notify(1, 3, 0, 9);
        d.dueRows(0, 9, "none f1");
        o.bundle(1, 3, 0);
        d.dueRows(0, 9, "70 f0 | 0 0 70");
        o.bundle(1, 3, NONE);
        d.dueRows(0, 9, "none f1");
        d.due("as known when it held one", o.owed(0, 9, o.count(4) - 1), 70);
    }

    private static void clausesAsTexts() {
        check.sentence("clauses as texts,");
        Desk d = Desk.with(check, CAR, 0);
        d.due("taken", d.clauses(0, " out fire unless(amount 099 and(is any or not late 3)) ;\nitem 60;"), 2);
        d.office.tell(0, d.office.count(4));
        d.due("told back", d.said(), "out fire unless amount 99 and (is any or not late 3);\nitem 60;\n");
        d.claim(FIRE, 5, 99, 99);
        d.claim(FIRE, 5, 100, 100);
        d.dueRows(0, 5, "0 f0 | 0 0 60 | 1 0 -60");
        d.dueRows(1, 5, "60 f0 | 0 0 60");
        d.due("a text that is none", d.clauses(0, "item 60; fire;"), -10 - 9);
    }

    private static void factsFromAMomentOn() {
        check.sentence("cases with facts that are known from some moment on;");
        Desk d = Desk.with(check, CAR, 0);
        d.claim(FIRE, 5, 1000, 1000);
        Office o = d.office;
        int notified = o.count(4);
        o.reserve(0, 5, 1, 300);
        o.pay(0, 5, 400);
        o.close(0, 5);
        long[] reserved = {0, 300, 300, 0};
        long[] used = {0, 0, 400, 400};
        for (int later = 0; later < reserved.length; later++) {
            d.due("reserved " + later, o.reserved(1, 0, notified + later), reserved[later]);
            d.due("used " + later, o.used(0, 0, notified + later), used[later]);
            d.due("owed " + later, o.owed(0, 5, notified + later), 1000 - used[later]);
        }
        d.due("ahead of the case", o.owed(0, 5, notified - 1), NO_ANSWER);
        d.due("not known yet", o.owed(0, 5, o.count(4) + 1), NO_ANSWER);
    }

    private static void rowByRow() {
        check.sentence("what is owed on a day as known at a moment, row by row;");
        Desk d = Desk.with(check, CAR, 5000);
        d.clauses(0, "average; own loss 100; loss 3000; own year 500; year 900; interest 10000;");
        d.claim(THEFT, 5, 9999, 9900);
        Office o = d.office;
        o.share(0, 5, 2, 17000);
        o.salvage(0, 5, 300);
        o.pay(0, 5, 20);
        // 3000 of 20000 are this office's, of 9900: 1485; a day's interest of 600 and 364 days' of 580 are 580
        d.dueRows(0, 370, "1160 f0 | 0 0 9900 | 3 0 -4900 | 4 10 -500 | 5 0 -100 | 6 0 -1400 | 7 1 -1515 | 8 0 -500"
                + " | 9 0 -85 | 10 0 -300 | 11 0 580 | 12 0 -20");
        o.correct(0, 6, 0, 0, 4000, 0);
        // 1718 of 18718 are this office's, of 4000: 367, and the cent that is left
        d.dueRows(0, 6, "-20 f0 | 0 0 4000 | 3 0 -1980 | 4 10 -202 | 5 0 -100 | 7 1 -1350 | 8 0 -368 | 12 0 -20");
    }

    private static void twoOrders() {
        check.sentence("limits of years laid by one of two orders,");
        Desk d = Desk.with(check, CAR, 0);
        Office o = d.office;
        for (int day : new int[] {50, 40}) {
            int loss = o.loss(FIRE, day);
            o.item(loss, 0, 1000, 1000);
            o.notify(0, NONE, loss, 60);
        }
        d.clauses(0, "own year 200; year 1100; by notice;");
        d.due("the first that came", d.owed(0, 60), 800);
        d.due("the second", d.owed(1, 60), 300);
        d.clauses(0, "own year 200; year 1100; by loss;");
        d.due("the later loss", d.owed(0, 60), 300);
        d.due("the earlier loss", d.owed(1, 60), 800);
        o.close(0, 70);
        d.due("one that is closed is ahead", d.owed(0, 70), 800);
        d.due("behind that", d.owed(1, 70), 300);
        d.due("not closed yet", d.owed(1, 69), 800);
    }

    private static void toTheCent() {
        check.sentence("shares between insurers to the cent,");
        long[][] alone = {{100, 100, 100}, {100, 1, 77}, {7, 93, 0}, {100, 0, 0}, {1, 1, 1}, {50, 3, 500}};
        for (long[] owes : alone) {
            for (int rule = 0; rule <= 2; rule++) {
                long all = Math.min(100, owes[0] + owes[1] + owes[2]);
                long given = 0;
                for (int turn = 0; turn < 3; turn++) {
                    given += shareOf(owes, turn, rule);
                }
                check.due("nothing is lost of " + owes[0] + ", " + owes[1] + ", " + owes[2] + " by rule " + rule, given, all);
            }
        }
    }

    /** This office in the place of one of three, with that one's RANK: what it owes. */
    private static long shareOf(long[] owes, int turn, int rule) {
        Desk d = Desk.with(check, CAR, 0);
        d.office.shareRule(0, rule);
        // WORTH is 100; own loss leaves what that one owes alone
        d.clauses(0, "own loss " + (100 - Math.min(100, owes[turn])) + ";");
        d.claim(FIRE, 5, 100, 100);
        d.office.rank(0, turn);
        for (int other = 0, insurer = 1; other < 3; other++) {
            if (other != turn) {
                d.office.rank(insurer, other);
                d.office.share(0, 5, insurer, Math.min(100, owes[other]));
                insurer++;
            }
        }
        return d.owed(0, 5);
    }

    private static void whollyOrNotAtAll() {
        check.sentence("batches that stand wholly or not at all,");
        Desk d = Desk.with(check, CAR, 0);
        d.claim(FIRE, 5, 1000, 1000);
        Office o = d.office;
        o.batch();
        d.due("held", o.pay(0, 5, 600), HELD);
        d.due("held", o.salvage(0, 6, 100), HELD);
        d.due("held", o.pay(0, 6, 301), HELD);
        d.due("not done yet", d.owed(0, 6), 1000);
        d.due("the third is too much", o.end(), -22);
        d.due("not at all", d.owed(0, 6), 1000);
        d.due("no facts", o.of(0, 5), 0);
        o.batch();
        o.pay(0, 5, 600);
        o.salvage(0, 6, 100);
        o.pay(0, 6, 300);
        d.due("all three", o.end(), 3);
        d.due("wholly", d.owed(0, 6), 0);
        d.due("too much now", o.pay(0, 6, 1), MUCH);
        d.due("days go on behind them", o.close(0, 5), DAY);
    }

    private static void runsWithFactors() {
        check.sentence("runs of payments by years with factors,");
        Desk d = Desk.with(check, CAR, 0);
        Office o = d.office;
        d.claim(FIRE, 360, 1000, 1000);
        o.notify(0, NONE, 0, 366);
        o.pay(0, 364, 40);
        o.pay(0, 366, 50);
        o.pay(1, 400, 30);
        o.pay(1, 1095, 600);
        int now = o.count(4);
        long[][] due = {{40, 80, 0, 600}, {0, 0, 0, 0}};
        long[][] dueByNotice = {{40, 50, 0, 0}, {30, 0, 600, 0}};
        for (int i = 0; i < 2; i++) {
            for (int j = 0; j < 4; j++) {
                d.due("by losses, row " + i + ", column " + j, o.run(0, i, j, now), due[i][j]);
                d.due("by notices, row " + i + ", column " + j, o.run(1, i, j, now), dueByNotice[i][j]);
            }
        }
        d.due("120 by 40, above", o.factor(0, 0, 1, 0, now), 3);
        d.due("120 by 40, below", o.factor(0, 0, 1, 1, now), 1);
        d.due("as known one payment before", o.factor(0, 2, 3, 0, now - 1), 1);
        d.due("720 by 120", o.factor(0, 2, 3, 0, now), 6);
        d.due("both rows: 120 by 70, above", o.factor(1, 0, 2, 0, now), 12);
        d.due("both rows: 120 by 70, below", o.factor(1, 0, 2, 1, now), 7);
        d.due("one row: 90 by 40", o.factor(1, 0, 1, 0, now), 9);
    }

    // ---- all written out

    /** Does every act at least once; some are refused, and one BATCH of each sort is over. */
    private static void everyAct(Office o) {
        o.person();
        o.policy(BUNDLE, 0, 0, 10);
        o.policy(CONTENTS, 0, 0, 1094);
        o.policy(TRANSPORT, 0, 100, 800);
        o.policy(LIABILITY, 0, 0, 729);
        o.bundle(0, 0, 1);
        o.bundle(0, 3, 2);
        o.period(1, 0, 5000);
        o.period(1, 1, 6000);
        o.period(2, 0, 7000);
        o.period(3, 0, 0);
        Tape.type(o, "in any unless late 30;own year 9;year 4000;by loss;");
        o.clauses(1);
        Tape.type(o, "interest 4000;");
        o.clauses(2);
        o.rank(0, 5);
        o.loss(STORM, 30);
        o.item(0, 3, 3000, 4000);
        o.item(0, 4, 500, 200);
        o.part(0, 50);
        o.loss(WATER, 120);
        o.item(2, 0, 2000, 2500);
        o.loss(THIRD, 350);
        o.item(3, 9, 700, 0);
        o.notify(1, NONE, 1, 40);
        o.notify(0, 0, 0, 45);
        o.notify(0, 3, 2, 130);
        o.notify(3, NONE, 3, 360);
        o.pay(2, 200, 100);
        o.period(1, 0, 6500);
        o.bundle(0, 3, NONE);
        o.reserve(0, 50, 0, 800);
        o.shareRule(1, 1);
        o.share(1, 50, 3, 1500);
        o.correct(1, 55, 1, 1, 450, 20);
        o.salvage(1, 60, 70);
        o.batch();
        o.pay(0, 60, 500);
        o.recourse(0, 65, 120);
        o.close(0, 66);
        o.end();
        o.batch();
        o.reserve(1, 70, 2, 33);
        o.pay(1, 70, 99999);
        o.end();
        o.batch();
        o.close(1, 80);
        o.undo();
        o.reopen(0, 90, 0);
        o.bundle(0, 3, 2);
        o.pay(2, 900, 50);
        o.pay(3, 400, 700);
    }

    /** What it has written, read by as many offices as 512 calls of each need. */
    private static String logOf(Consumer<Office> past) {
        StringBuilder log = new StringBuilder();
        for (int size = 1; log.length() < size;) {
            Office o = new Office();
            past.accept(o);
            size = o.write();
            while (log.length() < size && o.calls() < MOST_CALLS) {
                log.append((char) o.letter(log.length()));
            }
        }
        return log.toString();
    }

    private static void writtenOutAndTakenIn() {
        check.sentence("all written out and taken in again.");
        String log = logOf(WholeTest::everyAct);
        Consumer<Office> again = o -> {
            Tape.type(o, log);
            o.takeIn();
        };
        Office by = new Office();
        everyAct(by);
        Office taken = new Office();
        Tape.type(taken, log);
        check.due("how many acts", taken.takeIn(), 50);
        int now = by.count(4);
        check.due("moments: all was done but the second batch and the third", now, 42);
        for (int what = 0; what <= 7; what++) {
            check.due("count " + what, taken.count(what), by.count(what));
        }
        check.due("what it writes", Desk.numbers(logOf(again)), Desk.numbers(log));
        for (int moment = 0; moment <= now; moment++) {
            for (int half = 0; half < 2; half++) {
                check.due("as known at " + moment, seenAt(again, moment, half), seenAt(WholeTest::everyAct, moment, half));
            }
        }
    }

    private static String seenAt(Consumer<Office> past, int moment, int half) {
        Office o = new Office();
        past.accept(o);
        StringBuilder all = new StringBuilder();
        if (half == 0) {
            for (int i = 0; i < 3; i++) {
                all.append(o.reserved(i, 0, moment)).append(' ').append(o.run(0, 0, i, moment)).append(' ')
                        .append(o.run(1, 0, i, moment)).append(' ').append(o.factor(0, i, 3, 0, moment)).append(' ')
                        .append(o.factor(1, i, 3, 1, moment)).append(' ');
            }
            for (int p = 0; p < 4; p++) {
                all.append(o.used(p, 0, moment)).append(' ').append(o.left(p, 0, moment)).append(' ')
                        .append(o.tell(p, moment)).append(' ');
                for (int i = 0; i < 55; i++) {
                    all.append(o.letter(i)).append(' ');
                }
            }
            return all.toString();
        }
        for (int c = 0; c < 4; c++) {
            for (int what = 0; what <= 6; what++) {
                all.append(o.of(c, what)).append(' ');
            }
            for (int day : new int[] {50, 62, 70, 1000}) {
                all.append(o.owed(c, day, moment)).append(' ').append(o.finding()).append(' ').append(o.say()).append(' ');
                for (int i = 0; i < 4; i++) {
                    all.append(o.row(i, 0)).append(' ').append(o.row(i, 1)).append(' ').append(o.cents(i)).append(' ');
                }
                all.append(o.trace(3)).append(" / ");
            }
        }
        return all.toString();
    }

    // ---- the second sentence

    private static void lastCall() {
        check.sentence("An object is used for at most 512 calls after it has been made; what later calls answer is free.");
        Desk d = Desk.with(check, CAR, 0);
        d.claim(FIRE, 5, 1000000, 1000000);
        Office o = d.office;
        long paid = 0;
        while (o.calls() < MOST_CALLS - 1) {
            paid += o.pay(0, 5, 3) == 1 ? 3 : 0;
        }
        d.due("forty payments", paid, 120);
        d.due("the 512th call", o.owed(0, 5, 48), 1000000 - paid);
    }

    /** What is answered is free then, but "No call may ever throw or fail to end" (rule 7 of LANGUAGE.md). */
    private static void behindTheLastCall() {
        Office o = new Office(Integer.MAX_VALUE);
        for (int round = 0; round < 60; round++) {
            everyAct(o);
            o.write();
            o.takeIn();
            for (int c = -1; c <= 100; c++) {
                o.owed(c, 10949, o.count(4));
                o.say();
                o.trace(c);
            }
        }
        check.due("how many calls", o.calls() > 20 * MOST_CALLS ? 1 : 0, 1);
    }
}
