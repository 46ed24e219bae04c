/** Part 6 of the document with promises 22 to 24: BATCHES that stand wholly or not at all. */
public final class BatchesTest {
    private static final int NONE = -1, BAD = -2, STATE = -3, FULL = -7, HELD = -8;
    private static final int LOWEST = Integer.MIN_VALUE, HIGHEST = Integer.MAX_VALUE;
    private static final long NO_ANSWER = ClaimsOffice.NO_ANSWER;
    private static final int FIRE = 0;
    private static final int CAR = 2;
    private static final Check check = new Check();

    public static void main(String[] args) {
        numbers();
        heldUnjudged();
        sixtyHeld();
        doneInOrder();
        refusedOne();
        momentsAreNotGivenAgain();
        undoneWholly();
        overEitherWay();
        givenUp();
        others();
        ofFortyFacts();
        check.done();
    }

    private static Desk car() {
        Desk d = Desk.with(check, CAR, 0);
        d.claim(FIRE, 100, 1000, 1000);
        return d;
    }

    private static void numbers() {
        check.sentence("A BATCH is numbered.");
        Office o = car().office;
        for (int i = 1; i <= 150; i++) {
            check.due("batch", o.batch(), i);
            check.due("over", i % 2 == 0 ? o.end() : o.undo(), 0);
        }
        check.due("begun", o.count(5), 150);
        check.due("tries", o.count(6), 150);
        check.sentence("A BATCH: its number (1, 2, ..).");
        Office fresh = new Office();
        check.due("none begun", fresh.count(5), 0);
        check.due("the first", fresh.batch(), 1);
        check.due("begun", fresh.count(5), 1);
        check.due("another", fresh.batch(), STATE);
        check.due("begun", fresh.count(5), 1);
        check.due("it has no moment", fresh.count(4), 0);
    }

    private static void heldUnjudged() {
        check.sentence("While it is under way FACTS that are asked for are HELD (60 at most), not judged but for that;");
        Desk d = car();
        Office o = d.office;
        int now = o.count(4);
        o.batch();
        d.due("a case that is none", o.close(77, 100), HELD);
        d.due("lowest", o.reserve(LOWEST, LOWEST, LOWEST, Long.MIN_VALUE), HELD);
        d.due("highest", o.correct(HIGHEST, HIGHEST, HIGHEST, HIGHEST, Long.MAX_VALUE, HIGHEST), HELD);
        d.due("no cents", o.pay(0, 100, 0), HELD);
        d.due("too much", o.pay(0, 100, 5000), HELD);
        d.due("a day ahead", o.share(0, 0, 1, 5), HELD);
        d.due("this office", o.share(0, 100, 0, 5), HELD);
        d.due("what is open", o.reopen(0, 100, 0), HELD);
        d.due("no ground", o.reopen(0, 100, 9), HELD);
        d.due("below 0", o.salvage(0, 100, -1), HELD);
        d.due("of nothing", o.recourse(0, 100, 5), HELD);
        d.due("held now", o.count(7), 11);
        d.due("none is done", o.of(0, 5), 0);
        d.due("no moment", o.count(4), now);
        d.due("owed as before", d.owed(0, 100), 1000);
        d.due("no findings", o.count(10), 0);
        d.due("end: the first is refused", o.end(), -20);
    }

    private static void sixtyHeld() {
        check.sentence("While it is under way FACTS that are asked for are HELD (60 at most), not judged but for that;");
        for (Fact fact : Fact.values()) {
            Desk d = car();
            Office o = d.office;
            o.batch();
            for (int i = 0; i < 59; i++) {
                o.reserve(0, 100, 9, 9);
            }
            d.due("the 60th: " + fact, fact.tell(o, 0, 100), HELD);
            d.due("the 61st: " + fact, fact.tell(o, 0, 100), FULL);
            d.due("the 61st, though it is not as told: " + fact, fact.tell(o, -1, -1), FULL);
            d.due("held now", o.count(7), 60);
            d.due("another batch", o.batch(), STATE);
            d.due("undo", o.undo(), 60);
            d.due("held now", o.count(7), 0);
            o.batch();
            d.due("held again: " + fact, fact.tell(o, 0, 100), HELD);
        }
        // all 60 are done, of two cases
        Desk d = car();
        Office o = d.office;
        d.claim(FIRE, 100, 1000, 1000);
        o.batch();
        for (int i = 0; i < 60; i++) {
            d.due("held", o.reserve(i % 2, 100, 0, i), HELD);
        }
        d.due("end", o.end(), 60);
        d.due("the last ones", o.reserved(0, 0, o.count(4)), 58 + 59);
    }

    private static void doneInOrder() {
        check.sentence("at its end they are done in order; when one is refused, all are undone"
                + " (their MOMENTS are not given again).");
        Desk d = car();
        Office o = d.office;
        int now = o.count(4);
        o.batch();
        o.correct(0, 100, 0, 0, 2000, 0);
        o.correct(0, 100, 0, 1, 2000, 0);
        o.pay(0, 100, 1500);
        o.close(0, 101);
        o.reopen(0, 131, 0);
        o.recourse(0, 131, 1500);
        d.due("all of them, each by those before it", o.end(), 6);
        d.due("facts", o.of(0, 5), 6);
        d.due("moments", o.count(4), now + 6);
        d.due("as KNOWN at the first", o.owed(0, 131, now + 1), 1000);
        d.due("as KNOWN at the second", o.owed(0, 131, now + 2), 2000);
        d.due("as KNOWN at the third", o.owed(0, 131, now + 3), 500);
        d.due("used", o.used(0, 0, now + 5), 1500);
        d.due("used", o.used(0, 0, now + 6), 0);
        check.sentence("The end of the BATCH: how many FACTS were done; -20 less the number (from 0) of the one that was"
                + " refused. STATE: none is under way.");
        d.due("none is under way", o.end(), STATE);
        o.batch();
        d.due("with nothing", o.end(), 0);
        o.batch();
        o.reserve(0, 131, 0, 5);
        d.due("with one", o.end(), 1);
        d.due("none is under way", o.end(), STATE);
        d.due("tries", o.count(6), 3);
    }

    private static void refusedOne() {
        check.sentence("The end of the BATCH: how many FACTS were done; -20 less the number (from 0) of the one that was"
                + " refused. STATE: none is under way.");
        for (int refused = 0; refused < 60; refused += refused < 3 ? 1 : 14) {
            Desk d = car();
            Office o = d.office;
            d.claim(FIRE, 100, 1000, 1000);
            o.batch();
            for (int i = 0; i < 60; i++) {
                o.reserve(i % 2, 100, i == refused ? 3 : 0, i);
            }
            int now = o.count(4);
            d.due("number " + refused, o.end(), -20 - refused);
            d.due("moments", o.count(4), now + refused);
            d.due("facts", o.of(0, 5) + o.of(1, 5), 0);
            d.due("tries", o.count(6), 1);
        }
        Desk d = car();
        Office o = d.office;
        o.batch();
        for (int i = 0; i < 40; i++) {
            o.reserve(0, 100, 0, i);
        }
        o.reserve(0, 100, 0, 40);
        for (int i = 0; i < 19; i++) {
            o.close(-1, -1);
        }
        d.due("the 41st of one case, ahead of others", o.end(), -60);
        o.batch();
        for (int i = 0; i < 59; i++) {
            o.reserve(0, 100 + i, i < 40 ? 0 : 7, i);
        }
        d.due("BAD ahead of FULL: the same one", o.end(), -60);
    }

    private static void momentsAreNotGivenAgain() {
        check.sentence("at its end they are done in order; when one is refused, all are undone"
                + " (their MOMENTS are not given again).");
        Desk d = car();
        Office o = d.office;
        int now = o.count(4);
        o.batch();
        o.pay(0, 100, 400);
        o.salvage(0, 100, 100);
        o.pay(0, 100, 501);
        d.due("the third", o.end(), -22);
        d.due("two moments are gone", o.count(4), now + 2);
        for (int moment = now; moment <= now + 2; moment++) {
            d.due("owed as KNOWN at " + moment, o.owed(0, 100, moment), 1000);
            d.due("used as KNOWN at " + moment, o.used(0, 0, moment), 0);
        }
        d.due("above now", o.owed(0, 100, now + 3), NO_ANSWER);
        o.pay(0, 100, 300);
        d.due("the next one", o.count(4), now + 3);
        d.due("not at one that is gone", o.owed(0, 100, now + 2), 1000);
        d.due("at its own", o.owed(0, 100, now + 3), 700);
        d.due("a case made then", o.of(d.claim(FIRE, 100, 5, 5), 6), now + 6);
        // refused at once: none is gone
        o.batch();
        o.close(9, 9);
        o.end();
        d.due("no moment", o.count(4), now + 6);
    }

    private static void undoneWholly() {
        check.sentence("at its end they are done in order; when one is refused, all are undone"
                + " (their MOMENTS are not given again).");
        // each sort of FACT, in two cases, ahead of one that is refused
        for (Fact fact : Fact.values()) {
            Desk d = car();
            Office o = d.office;
            d.claim(FIRE, 100, 1000, 1000);
            o.reserve(0, 105, 0, 70);
            o.pay(1, 105, 300);
            if (fact == Fact.REOPEN) {
                o.close(0, 105);
                o.close(1, 105);
            }
            String before = look(d);
            o.batch();
            fact.tell(o, 0, 120);
            fact.tell(o, 1, 120);
            o.reserve(0, 120, 5, 5);
            d.due(fact + " is undone", o.end(), -22);
            d.due("as it was behind " + fact, look(d), before);
            d.due("its day does not count", fact.tell(o, 0, 106), 1);
        }
    }

    private static String look(Desk d) {
        StringBuilder look = new StringBuilder();
        int now = (int) d.now();
        for (int c = 0; c < 2; c++) {
            look.append(d.rows(c, 200)).append(" / ");
            for (int what = 0; what <= 6; what++) {
                look.append(d.office.of(c, what)).append(' ');
            }
        }
        for (int kind = 0; kind <= 2; kind++) {
            look.append(d.office.reserved(kind, 0, now)).append(' ');
        }
        look.append(d.office.used(0, 0, now)).append(' ').append(d.office.run(0, 0, 0, now));
        return look.toString();
    }

    private static void overEitherWay() {
        check.sentence("Either way it is over, and a TRY is counted.");
        Desk d = car();
        Office o = d.office;
        d.due("tries", o.count(6), 0);
        o.batch();
        o.close(0, 100);
        o.end();
        d.due("done: a try", o.count(6), 1);
        d.due("held now", o.count(7), 0);
        d.due("over", o.end(), STATE);
        d.due("a fact is judged again", o.reserve(0, 100, 0, 5), STATE);
        o.batch();
        o.close(0, 100);
        d.due("tries while it is under way", o.count(6), 1);
        o.end();
        d.due("undone: a try", o.count(6), 2);
        d.due("held now", o.count(7), 0);
        d.due("over", o.undo(), STATE);
        d.due("acts are done again", o.person(), 1);
        d.due("the log is written again", o.write() > 4 ? 1 : 0, 1);
        d.due("a refused end is no try", o.end(), STATE);
        d.due("tries", o.count(6), 2);
    }

    private static void givenUp() {
        check.sentence("The BATCH is given up (a TRY, too): how many were HELD. STATE.");
        Desk d = car();
        Office o = d.office;
        int now = o.count(4);
        d.due("none is under way", o.undo(), STATE);
        d.due("tries", o.count(6), 0);
        o.batch();
        d.due("none were HELD", o.undo(), 0);
        o.batch();
        o.close(0, 100);
        d.due("one was", o.undo(), 1);
        d.due("it is open", o.of(0, 4), 1);
        d.due("no moment", o.count(4), now);
        d.due("tries", o.count(6), 2);
        d.due("none is under way", o.undo(), STATE);
        d.due("none is under way", o.end(), STATE);
        d.due("begun", o.count(5), 2);
    }

    private static void others() {
        check.sentence("While a BATCH is under way all acts but FACTS, end(), undo(), and write(), takeIn() are STATE,"
                + " ahead of all others.");
        Desk d = car();
        Office o = d.office;
        o.policy(6, 0, 0, 5);
        o.write();
        int said = o.count(9);
        int now = o.count(4);
        o.batch();
        o.type(7, 1);
        // with numbers that are as told, and with some that are not
        int[] answers = {o.person(), o.rank(0, 0), o.rank(9, 9), o.policy(0, 0, 0, 5), o.policy(9, 9, 9, 9), o.bundle(1, 0, 0),
            o.bundle(1, 0, 1), o.bundle(9, 9, 9), o.period(0, 0, 5), o.period(0, 9, -5), o.clauses(0), o.clauses(9),
            o.shareRule(0, 0), o.shareRule(0, 9), o.loss(0, 0), o.loss(9, 9), o.part(0, 50), o.part(0, 0), o.item(0, 0, 1, 1),
            o.item(9, 9, 9, 9), o.notify(0, NONE, 0, 100), o.notify(0, NONE, 0, 99), o.notify(9, 9, 9, 9), o.batch(), o.write(),
            o.takeIn()};
        for (int i = 0; i < answers.length; i++) {
            d.due("answer " + i, answers[i], STATE);
        }
        d.due("the tape stays", o.count(8), 1);
        d.due("what was written stays", o.count(9), said);
        d.due("no moment", o.count(4), now);
        d.due("held now", o.count(7), 0);
        // asks go on
        d.due("owed", o.owed(0, 100, now), 1000);
        d.due("row", o.row(0, 0), 0);
        d.due("say", o.say(), 11);
        d.due("tell", o.tell(0, now), 0);
        d.due("tell a bundle", o.tell(1, now), BAD);
        d.due("used", o.used(0, 0, now), 0);
        d.due("left", o.left(0, 0, now), NO_ANSWER);
        d.due("reserved", o.reserved(0, 0, now), 0);
        d.due("run", o.run(0, 0, 0, now), 0);
        d.due("of", o.of(0, 4), 1);
        d.due("type", o.type(0, 0), 0);
        d.due("end", o.end(), 0);
        d.due("an act again", o.rank(0, 0), 1);
    }

    private static void ofFortyFacts() {
        check.sentence("(All FACTS: HELD, or FULL, in a BATCH; else BAD; STATE: it is not OPEN; DAY; FULL: 40.)");
        Desk d = car();
        Office o = d.office;
        for (int i = 0; i < 39; i++) {
            o.reserve(0, 100, 0, i);
        }
        o.batch();
        o.reserve(0, 100, 0, 40);
        d.due("the 40th by a batch", o.end(), 1);
        o.batch();
        d.due("the 41st is HELD", o.reserve(0, 100, 0, 41), HELD);
        d.due("and refused", o.end(), -20);
        d.due("facts", o.of(0, 5), 40);
        // of a case that has all: those of an undone BATCH make room again
        d = car();
        o = d.office;
        for (int i = 0; i < 38; i++) {
            o.reserve(0, 100, 0, i);
        }
        o.batch();
        o.reserve(0, 100, 0, 1);
        o.reserve(0, 100, 0, 2);
        o.reserve(0, 100, 0, 3);
        d.due("one too many", o.end(), -22);
        d.due("facts", o.of(0, 5), 38);
        d.due("the 39th", o.reserve(0, 100, 0, 5), 1);
        d.due("the 40th", o.reserve(0, 100, 0, 5), 1);
        d.due("the 41st", o.reserve(0, 100, 0, 5), FULL);
    }
}
