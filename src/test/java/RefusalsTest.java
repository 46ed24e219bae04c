import java.util.function.Consumer;

/** The paragraph REFUSALS with promises 1 to 12: which of several refusals it is, and that it changes nothing. */
public final class RefusalsTest {
    private static final int NONE = -1, BAD = -2, STATE = -3, DAY = -4, LATE = -5, MUCH = -6, FULL = -7;
    private static final int LOWEST = Integer.MIN_VALUE, HIGHEST = Integer.MAX_VALUE;
    private static final long NO_ANSWER = ClaimsOffice.NO_ANSWER;
    private static final int FIRE = 0, WATER = 1, THIRD = 4;
    private static final int CAR = 2, LIABILITY = 3, BUNDLE = 6;
    private static final Check check = new Check();

    public static void main(String[] args) {
        aNewObject();
        persons();
        ranks();
        policies();
        bundles();
        bundlesWithinThemselves();
        bundlesByManyWays();
        periods();
        clauses();
        shareRules();
        losses();
        parts();
        items();
        itemsOfNotified();
        notices();
        factsInTheirOrder();
        payments();
        paymentsWithFindings();
        reopenings();
        recourses();
        batches();
        tapes();
        toldCounts();
        asks();
        asksOfMoments();
        check.done();
    }

    /** A CAR and a BUNDLE, two cases of it, a text on THE TAPE, something LOOKED AT and said. */
    private static void begin(Office o) {
        o.person();
        o.policy(CAR, 0, 0, 1000);
        o.policy(BUNDLE, 0, 0, 1000);
        o.period(0, 0, 500);
        o.bundle(1, 1, 0);
        o.item(o.loss(FIRE, 100), 0, 900, 900);
        o.part(0, 50);
        o.notify(0, NONE, 0, 110);
        o.notify(1, 1, 1, 110);
        o.pay(0, 120, 100);
        o.reserve(0, 120, 1, 70);
        o.owed(0, 120, o.count(4));
        o.say();
        Tape.type(o, "by loss;");
    }

    private static Twins twins(Consumer<Office> more) {
        return new Twins(check, o -> {
            begin(o);
            more.accept(o);
        });
    }

    private static void repeat(int times, Runnable call) {
        for (int i = 0; i < times; i++) {
            call.run();
        }
    }

    // ---- promises 1 to 12

    private static void aNewObject() {
        check.sentence("Nothing but the INSURERS.");
        Office o = new Office();
        for (int what = 0; what <= 10; what++) {
            check.due("count " + what, o.count(what), 0);
        }
        check.due("no policy", o.tell(0, 0), BAD);
        check.due("no loss", o.part(0, 5), BAD);
        check.due("no case", o.of(0, 0), BAD);
        check.due("no batch", o.end(), STATE);
        check.due("no row", o.row(0, 0), NONE);
        check.due("no cents", o.cents(0), 0);
        check.due("no trace", o.trace(0), NONE);
        check.due("no finding", o.finding(), 0);
        check.due("no letter", o.letter(0), NONE);
        check.due("nothing to say", o.say(), 0);
        check.due("nothing reserved", o.reserved(0, 0, 0), 0);
        check.due("nothing paid", o.run(0, 0, 0, 0), 0);
        check.due("no factor", o.factor(0, 0, 1, 0, 0), NO_ANSWER);
        check.due("no used", o.used(0, 0, 0), NO_ANSWER);
        check.due("no left", o.left(0, 0, 0), NO_ANSWER);
        check.due("no owed", o.owed(0, 0, 0), NO_ANSWER);
        check.due("an insurer 5", o.rank(5, 9), 1);
        check.due("a log of that", o.write(), 3 + 4);
        // two objects have nothing of each other
        check.due("another one", new Office().count(4), 0);
    }

    private static void persons() {
        check.sentence("A PERSON: its number. FULL.");
        Twins full = twins(o -> repeat(99, o::person));
        full.refused("the 101st person", o -> o.person(), FULL);
        Office o = new Office();
        check.due("the first", o.person(), 0);
        check.due("the second", o.person(), 1);
    }

    private static void ranks() {
        check.sentence("An INSURER's RANK (0 .. 9): 1. BAD; FULL: 60 were told.");
        Twins t = twins(o -> { });
        for (int w : new int[] {LOWEST, -1, 6, HIGHEST}) {
            t.refused("rank(" + w + ", 0)", o -> o.rank(w, 0), BAD);
        }
        for (int w : new int[] {LOWEST, -1, 10, HIGHEST}) {
            t.refused("rank(0, " + w + ")", o -> o.rank(0, w), BAD);
        }
        Office o = new Office();
        for (int rank = 0; rank <= 9; rank++) {
            for (int insurer = 0; insurer <= 5; insurer++) {
                check.due("rank(" + insurer + ", " + rank + ")", o.rank(insurer, rank), 1);
            }
        }
        check.due("the 61st", o.rank(0, 0), FULL);
        Twins full = twins(x -> repeat(60, () -> x.rank(1, 7)));
        full.refused("the 61st", x -> x.rank(1, 8), FULL);
        full.refused("of another insurer", x -> x.rank(2, 8), FULL);
        full.refused("BAD ahead of FULL", x -> x.rank(1, 10), BAD);
        full.refused("BAD ahead of FULL", x -> x.rank(6, 1), BAD);
    }

    private static void policies() {
        check.sentence("A POLICY: its number. BAD (KIND, PERSON, days, last ahead of first); FULL.");
        Twins t = twins(o -> { });
        for (int w : new int[] {LOWEST, -1, 7, HIGHEST}) {
            t.refused("kind " + w, o -> o.policy(w, 0, 0, 5), BAD);
        }
        for (int w : new int[] {LOWEST, -1, 1, HIGHEST}) {
            t.refused("person " + w, o -> o.policy(0, w, 0, 5), BAD);
        }
        for (int w : new int[] {LOWEST, -1, 10950, HIGHEST}) {
            t.refused("first " + w, o -> o.policy(0, 0, w, 10949), BAD);
            t.refused("last " + w, o -> o.policy(0, 0, 0, w), BAD);
        }
        t.refused("last ahead of first", o -> o.policy(0, 0, 5, 4), BAD);
        t.refused("last ahead of first", o -> o.policy(6, 0, 10949, 0), BAD);
        Office o = new Office();
        o.person();
        for (int kind = 0; kind <= 6; kind++) {
            check.due("kind " + kind, o.policy(kind, 0, kind, kind), kind);
        }
        check.due("all days", o.policy(0, 0, 0, 10949), 7);
        Twins full = twins(x -> repeat(98, () -> x.policy(0, 0, 0, 5)));
        full.refused("the 101st", x -> x.policy(0, 0, 0, 5), FULL);
        full.refused("a BUNDLE", x -> x.policy(6, 0, 0, 5), FULL);
        full.refused("BAD ahead of FULL", x -> x.policy(7, 0, 0, 5), BAD);
    }

    private static void bundles() {
        check.sentence("PLACE of a BUNDLE has a POLICY, or nothing (NONE), from now on: 1. BAD (no BUNDLE, too);"
                + " STATE: the BUNDLE would stand within itself; FULL: 200 were told.");
        Twins t = twins(o -> { });
        for (int w : new int[] {LOWEST, -1, 2, HIGHEST}) {
            t.refused("policy " + w, o -> o.bundle(w, 0, 0), BAD);
        }
        t.refused("no BUNDLE", o -> o.bundle(0, 0, NONE), BAD);
        t.refused("no BUNDLE, in itself", o -> o.bundle(0, 0, 0), BAD);
        for (int w : new int[] {LOWEST, -1, 4, HIGHEST}) {
            t.refused("place " + w, o -> o.bundle(1, w, 0), BAD);
            t.refused("BAD ahead of STATE, place " + w, o -> o.bundle(1, w, 1), BAD);
        }
        for (int w : new int[] {LOWEST, -2, 2, HIGHEST}) {
            t.refused("part " + w, o -> o.bundle(1, 0, w), BAD);
        }
        t.refused("in itself", o -> o.bundle(1, 0, 1), STATE);
        Twins full = twins(o -> repeat(199, () -> o.bundle(1, 2, 0)));
        full.refused("the 201st", o -> o.bundle(1, 2, 0), FULL);
        full.refused("of nothing", o -> o.bundle(1, 2, NONE), FULL);
        full.refused("STATE ahead of FULL", o -> o.bundle(1, 2, 1), STATE);
        full.refused("BAD ahead of FULL", o -> o.bundle(0, 2, 1), BAD);
        Office o = new Office();
        begin(o);
        for (int i = 1; i < 200; i++) {
            check.due("told " + i, o.bundle(1, i % 4, i % 3 == 0 ? NONE : 0), 1);
        }
        check.due("the 201st", o.bundle(1, 0, NONE), FULL);
    }

    private static void bundlesWithinThemselves() {
        check.sentence("PLACE of a BUNDLE has a POLICY, or nothing (NONE), from now on: 1. BAD (no BUNDLE, too);"
                + " STATE: the BUNDLE would stand within itself; FULL: 200 were told.");
        // 2 in each PLACE of 1, 3 in the last PLACE of 2
        Twins t = twins(o -> {
            o.policy(BUNDLE, 0, 0, 5);
            o.policy(BUNDLE, 0, 0, 5);
            o.bundle(1, 3, 2);
            o.bundle(2, 3, 3);
        });
        for (int place = 0; place <= 3; place++) {
            int p = place;
            t.refused("1 in 2, place " + p, o -> o.bundle(2, p, 1), STATE);
            t.refused("1 in 3, place " + p, o -> o.bundle(3, p, 1), STATE);
            t.refused("2 in 3, place " + p, o -> o.bundle(3, p, 2), STATE);
            t.refused("3 in 3, place " + p, o -> o.bundle(3, p, 3), STATE);
        }
        Office o = new Office();
        begin(o);
        o.policy(BUNDLE, 0, 0, 5);
        o.policy(BUNDLE, 0, 0, 5);
        check.due("2 in 1", o.bundle(1, 3, 2), 1);
        check.due("3 in 2", o.bundle(2, 3, 3), 1);
        check.due("3 in 1, too", o.bundle(1, 2, 3), 1);
        check.due("3 in 1 twice", o.bundle(1, 0, 3), 1);
        check.due("1 in 3", o.bundle(3, 0, 1), STATE);
        check.due("2 out of 1", o.bundle(1, 3, NONE), 1);
        check.due("1 in 3 still", o.bundle(3, 0, 1), STATE);
        check.due("3 out of 1 once", o.bundle(1, 2, 0), 1);
        check.due("1 in 3 still", o.bundle(3, 0, 1), STATE);
        check.due("3 out of 1", o.bundle(1, 0, NONE), 1);
        check.due("1 in 3 now", o.bundle(3, 0, 1), 1);
        check.due("2 in 1 no more", o.bundle(1, 3, 2), STATE);
        // what it takes the place of does not count
        check.due("3 out of 2, for the car", o.bundle(2, 3, 0), 1);
        check.due("2 in 1", o.bundle(1, 3, 2), 1);
        check.due("3 in 2 again", o.bundle(2, 3, 3), STATE);
    }

    private static void bundlesByManyWays() {
        check.sentence("PLACE of a BUNDLE has a POLICY, or nothing (NONE), from now on: 1. BAD (no BUNDLE, too);"
                + " STATE: the BUNDLE would stand within itself; FULL: 200 were told.");
        // each has the next one in all its PLACES: 4^9 ways from the first to the last
        Office o = new Office();
        o.person();
        for (int i = 0; i < 10; i++) {
            o.policy(BUNDLE, 0, 0, 5);
        }
        for (int i = 0; i < 9; i++) {
            for (int place = 0; place <= 3; place++) {
                check.due("the next one", o.bundle(i, place, i + 1), 1);
            }
        }
        for (int i = 0; i < 10; i++) {
            check.due(i + " in the last one", o.bundle(9, i % 4, i), STATE);
        }
        // one PLACE that is left is enough, and when there is none, it may
        for (int place = 0; place <= 2; place++) {
            o.bundle(4, place, NONE);
            check.due("the first in the last one", o.bundle(9, 0, 0), STATE);
        }
        o.bundle(4, 3, NONE);
        check.due("the first in the last one now", o.bundle(9, 0, 0), 1);
        check.due("the fifth in the first one", o.bundle(0, 0, 4), 1);
        check.due("the last in the fifth one", o.bundle(4, 3, 9), STATE);
    }

    private static void periods() {
        check.sentence("THE SUM of a PERIOD: 1. BAD: also no YEAR of it, a BUNDLE; FULL: 300 were told.");
        Twins t = twins(o -> { });
        for (int w : new int[] {LOWEST, -1, 1, 2, HIGHEST}) {
            t.refused("policy " + w, o -> o.period(w, 0, 5), BAD);
        }
        for (int w : new int[] {LOWEST, -1, 3, 29, 30, HIGHEST}) {
            t.refused("year " + w, o -> o.period(0, w, 5), BAD);
        }
        for (long w : new long[] {Long.MIN_VALUE, -1, 1000000000001L, Long.MAX_VALUE}) {
            t.refused("sum " + w, o -> o.period(0, 0, w), BAD);
        }
        Office o = new Office();
        begin(o);
        for (int i = 1; i < 300; i++) {
            check.due("told " + i, o.period(0, i % 3, i), 1);
        }
        check.due("the 301st", o.period(0, 0, 5), FULL);
        Twins full = twins(x -> repeat(299, () -> x.period(0, 1, 7)));
        full.refused("the 301st", x -> x.period(0, 1, 8), FULL);
        full.refused("of another YEAR", x -> x.period(0, 2, 8), FULL);
        full.refused("BAD ahead of FULL", x -> x.period(0, 3, 8), BAD);
    }

    private static void clauses() {
        check.sentence("BAD: also a BUNDLE, a TAPE of more than 400; FULL (ahead of a FAULT): 150 were told.");
        Twins t = twins(o -> { });
        for (int w : new int[] {LOWEST, -1, 1, 2, HIGHEST}) {
            t.refused("clauses(" + w + ")", o -> o.clauses(w), BAD);
        }
        twins(o -> o.type('x', 1)).refused("a FAULT", o -> o.clauses(0), -10 - 8);
        twins(o -> Tape.type(o, " ".repeat(393))).refused("401 bytes", o -> o.clauses(0), BAD);
        Twins full = twins(o -> {
            o.type(0, 0);
            repeat(150, () -> o.clauses(0));
            o.type('x', 1);
        });
        full.refused("FULL ahead of a FAULT", o -> o.clauses(0), FULL);
        full.refused("BAD ahead of FULL", o -> o.clauses(1), BAD);
    }

    private static void shareRules() {
        check.sentence("A RULE (0 .. 2) of a POLICY: 1. BAD: also a BUNDLE; FULL: 150 were told.");
        Twins t = twins(o -> { });
        for (int w : new int[] {LOWEST, -1, 1, 2, HIGHEST}) {
            t.refused("policy " + w, o -> o.shareRule(w, 0), BAD);
        }
        for (int w : new int[] {LOWEST, -1, 3, HIGHEST}) {
            t.refused("rule " + w, o -> o.shareRule(0, w), BAD);
        }
        Office o = new Office();
        begin(o);
        for (int i = 0; i < 150; i++) {
            check.due("told " + i, o.shareRule(0, i % 3), 1);
        }
        check.due("the 151st", o.shareRule(0, 0), FULL);
        Twins full = twins(x -> repeat(150, () -> x.shareRule(0, 2)));
        full.refused("the 151st", x -> x.shareRule(0, 1), FULL);
        full.refused("BAD ahead of FULL", x -> x.shareRule(0, 3), BAD);
        full.refused("BAD ahead of FULL", x -> x.shareRule(1, 0), BAD);
    }

    private static void losses() {
        check.sentence("A LOSS of a KIND 0 .. 4: its number. BAD; FULL.");
        Twins t = twins(o -> { });
        for (int w : new int[] {LOWEST, -1, 5, 6, HIGHEST}) {
            t.refused("kind " + w, o -> o.loss(w, 5), BAD);
        }
        for (int w : new int[] {LOWEST, -1, 10950, HIGHEST}) {
            t.refused("day " + w, o -> o.loss(0, w), BAD);
        }
        Office o = new Office();
        for (int kind = 0; kind <= 4; kind++) {
            check.due("kind " + kind, o.loss(kind, kind * 2737), kind);
        }
        Twins full = twins(x -> repeat(198, () -> x.loss(4, 5)));
        full.refused("the 201st", x -> x.loss(0, 5), FULL);
        full.refused("BAD ahead of FULL", x -> x.loss(5, 5), BAD);
    }

    private static void parts() {
        check.sentence("A PART of a LOSS, of the same day: its number. BAD; STATE: it would be the 5th PART one of the other;"
                + " FULL.");
        Twins t = twins(o -> { });
        for (int w : new int[] {LOWEST, -1, 2, HIGHEST}) {
            t.refused("whole " + w, o -> o.part(w, 50), BAD);
        }
        for (int w : new int[] {LOWEST, -1, 0, 101, HIGHEST}) {
            t.refused("hundredths " + w, o -> o.part(0, w), BAD);
        }
        Twins deep = twins(o -> {
            o.part(1, 50);
            o.part(2, 50);
            o.part(3, 50);
        });
        deep.refused("the 5th one of the other", o -> o.part(4, 50), STATE);
        deep.refused("BAD ahead of STATE", o -> o.part(4, 0), BAD);
        Twins full = twins(o -> {
            o.part(1, 50);
            o.part(2, 50);
            o.part(3, 50);
            repeat(195, () -> o.part(0, 1));
        });
        full.refused("the 201st", o -> o.part(0, 50), FULL);
        full.refused("STATE ahead of FULL", o -> o.part(4, 50), STATE);
        full.refused("BAD ahead of FULL", o -> o.part(0, 101), BAD);
        full.refused("a LOSS of no other, too", o -> o.loss(0, 5), FULL);
    }

    private static void items() {
        check.sentence("An ITEM: how many the LOSS has. BAD: also of a PART;"
                + " STATE: the LOSS, or a PART that comes of it, was notified; FULL.");
        Twins t = twins(o -> o.loss(FIRE, 5));
        for (int w : new int[] {LOWEST, -1, 3, HIGHEST}) {
            t.refused("loss " + w, o -> o.item(w, 0, 5, 5), BAD);
        }
        for (int w : new int[] {LOWEST, -1, 10, HIGHEST}) {
            t.refused("sort " + w, o -> o.item(2, w, 5, 5), BAD);
        }
        for (long w : new long[] {Long.MIN_VALUE, -1, 1000000000001L, Long.MAX_VALUE}) {
            t.refused("amount " + w, o -> o.item(2, 0, w, 5), BAD);
            t.refused("value " + w, o -> o.item(2, 0, 5, w), BAD);
        }
        t.refused("of a PART", o -> o.item(1, 0, 5, 5), BAD);
        t.refused("of a LOSS that was notified", o -> o.item(0, 0, 5, 5), STATE);
        t.refused("BAD ahead of STATE", o -> o.item(0, 10, 5, 5), BAD);
        Twins full = twins(o -> {
            o.loss(FIRE, 5);
            repeat(6, () -> o.item(2, 0, 5, 5));
        });
        full.refused("the seventh", o -> o.item(2, 0, 5, 5), FULL);
        full.refused("BAD ahead of FULL", o -> o.item(2, 0, -1, 5), BAD);
        Twins notified = twins(o -> {
            o.loss(FIRE, 5);
            repeat(6, () -> o.item(2, 0, 5, 5));
            o.notify(0, NONE, 2, 110);
        });
        notified.refused("STATE ahead of FULL", o -> o.item(2, 0, 5, 5), STATE);
    }

    private static void itemsOfNotified() {
        check.sentence("An ITEM: how many the LOSS has. BAD: also of a PART;"
                + " STATE: the LOSS, or a PART that comes of it, was notified; FULL.");
        // 0; 1 of 0; 2 of 1; 3 of 2; 4 of 3; 5 of 0; 6 another LOSS
        for (int notified = 0; notified <= 6; notified++) {
            Office o = new Office();
            o.person();
            o.policy(CAR, 0, 0, 5);
            o.loss(FIRE, 5);
            for (int i = 0; i < 4; i++) {
                o.part(i, 50);
            }
            o.part(0, 50);
            o.loss(FIRE, 5);
            check.due("ahead of it", o.item(0, 0, 5, 5), 1);
            o.notify(0, NONE, notified, 4);
            check.due("behind a refused notice", o.item(0, 0, 5, 5), 2);
            o.notify(0, NONE, notified, 5);
            check.due("LOSS 0 behind a notice of " + notified, o.item(0, 0, 5, 5), notified == 6 ? 3 : STATE);
            check.due("LOSS 6 behind a notice of " + notified, o.item(6, 0, 5, 5), notified == 6 ? STATE : 1);
            // a PART that is made then is of no use to it
            check.due("a PART that comes later", o.part(0, 50), 7);
            check.due("LOSS 0 then", o.item(0, 0, 5, 5), notified == 6 ? 4 : STATE);
        }
    }

    // ---- promises 13 to 24: several refusals at once

    private static void notices() {
        check.sentence("REFUSALS, of several the first one: BAD (a number is not as told, or names nothing), STATE (as told),"
                + " DAY (ahead of what it may not be ahead of), LATE, MUCH, FULL. They change nothing (but FINDINGS that were"
                + " met are counted, and how often takeIn() was tried).");
        Twins t = twins(o -> o.loss(FIRE, 200));
        t.refused("DAY by the LOSS", o -> o.notify(0, NONE, 2, 199), DAY);
        t.refused("DAY by a NOTICE", o -> o.notify(0, NONE, 0, 109), DAY);
        t.refused("BAD ahead of DAY: place", o -> o.notify(0, 0, 0, 109), BAD);
        t.refused("BAD ahead of DAY: policy", o -> o.notify(2, NONE, 0, 109), BAD);
        t.refused("BAD ahead of DAY: loss", o -> o.notify(0, NONE, 3, 109), BAD);
        t.refused("BAD: no such day", o -> o.notify(0, NONE, 0, -1), BAD);
        t.refused("BAD: a BUNDLE without a PLACE", o -> o.notify(1, NONE, 0, 110), BAD);
        Twins full = twins(o -> repeat(98, () -> o.notify(0, NONE, 0, 110)));
        full.refused("FULL", o -> o.notify(0, NONE, 0, 110), FULL);
        full.refused("DAY ahead of FULL", o -> o.notify(0, NONE, 0, 109), DAY);
        full.refused("BAD ahead of FULL", o -> o.notify(0, 3, 0, 110), BAD);
    }

    private static void factsInTheirOrder() {
        check.sentence("REFUSALS, of several the first one: BAD (a number is not as told, or names nothing), STATE (as told),"
                + " DAY (ahead of what it may not be ahead of), LATE, MUCH, FULL. They change nothing (but FINDINGS that were"
                + " met are counted, and how often takeIn() was tried).");
        Twins open = twins(o -> { });
        Twins closed = twins(o -> o.close(0, 120));
        Twins full = twins(o -> repeat(38, () -> o.salvage(0, 120, 0)));
        Twins fullClosed = twins(o -> {
            repeat(37, () -> o.salvage(0, 120, 0));
            o.close(0, 120);
        });
        for (Fact fact : Fact.values()) {
            boolean reopens = fact == Fact.REOPEN;
            open.refused(fact + ": BAD, no case", o -> fact.tell(o, 2, 120), BAD);
            open.refused(fact + ": BAD ahead of the rest", o -> fact.tell(o, 0, 10950), BAD);
            (reopens ? open : closed).refused(fact + ": STATE", o -> fact.tell(o, 0, 120), STATE);
            (reopens ? open : closed).refused(fact + ": STATE ahead of DAY", o -> fact.tell(o, 0, 119), STATE);
            (reopens ? full : fullClosed).refused(fact + ": STATE ahead of FULL", o -> fact.tell(o, 0, 120), STATE);
            (reopens ? closed : open).refused(fact + ": DAY", o -> fact.tell(o, 0, 119), DAY);
            (reopens ? closed : open).refused(fact + ": DAY, ahead of the NOTICE", o -> fact.tell(o, 0, 109), DAY);
            (reopens ? fullClosed : full).refused(fact + ": DAY ahead of FULL", o -> fact.tell(o, 0, 119), DAY);
            (reopens ? fullClosed : full).refused(fact + ": FULL", o -> fact.tell(o, 0, 120), FULL);
        }
        // BAD by each number, on a case that is not OPEN and has all its FACTS
        fullClosed.refused("kind", o -> o.reserve(0, 0, 3, 5), BAD);
        fullClosed.refused("cents", o -> o.reserve(0, 0, 0, -1), BAD);
        fullClosed.refused("cents", o -> o.pay(0, 0, 0), BAD);
        fullClosed.refused("item", o -> o.correct(0, 0, 1, 0, 5, 0), BAD);
        fullClosed.refused("what", o -> o.correct(0, 0, 0, 2, 5, 0), BAD);
        fullClosed.refused("cents", o -> o.correct(0, 0, 0, 0, -1, 0), BAD);
        fullClosed.refused("from", o -> o.correct(0, 0, 0, 0, 5, 10950), BAD);
        fullClosed.refused("insurer", o -> o.share(0, 0, 0, 5), BAD);
        fullClosed.refused("cents", o -> o.share(0, 0, 1, -1), BAD);
        fullClosed.refused("cents", o -> o.salvage(0, 0, -1), BAD);
        fullClosed.refused("cents", o -> o.recourse(0, 0, -1), BAD);
        full.refused("ground", o -> o.reopen(0, 0, 3), BAD);
    }

    private static void payments() {
        check.sentence("REFUSALS, of several the first one: BAD (a number is not as told, or names nothing), STATE (as told),"
                + " DAY (ahead of what it may not be ahead of), LATE, MUCH, FULL. They change nothing (but FINDINGS that were"
                + " met are counted, and how often takeIn() was tried).");
        Twins t = twins(o -> { });
        t.refused("MUCH", o -> o.pay(0, 120, 801), MUCH);
        t.refused("DAY ahead of MUCH", o -> o.pay(0, 119, 801), DAY);
        t.refused("BAD ahead of MUCH", o -> o.pay(0, 120, 1000000000001L), BAD);
        twins(o -> o.close(0, 120)).refused("STATE ahead of MUCH", o -> o.pay(0, 120, 801), STATE);
        Twins full = twins(o -> repeat(38, () -> o.salvage(0, 120, 0)));
        full.refused("MUCH ahead of FULL", o -> o.pay(0, 120, 801), MUCH);
        full.refused("FULL", o -> o.pay(0, 120, 800), FULL);
    }

    private static void paymentsWithFindings() {
        check.sentence("They change nothing (but FINDINGS that were met are counted, and how often takeIn() was tried).");
        Twins t = twins(o -> {
            o.policy(LIABILITY, 0, 0, 1000);
            o.period(2, 0, 5);
            o.notify(2, NONE, 0, 110);
        });
        t.refused("MUCH with a FINDING", o -> o.pay(2, 110, 5), MUCH, 1);
        t.refused("not with BAD", o -> o.pay(2, 110, 0), BAD, 0);
        t.refused("not with DAY", o -> o.pay(2, 109, 5), DAY, 0);
        Twins full = twins(o -> {
            o.policy(LIABILITY, 0, 0, 1000);
            o.period(2, 0, 5);
            o.notify(2, NONE, 0, 110);
            repeat(40, () -> o.salvage(2, 110, 0));
        });
        full.refused("MUCH with a FINDING ahead of FULL", o -> o.pay(2, 110, 5), MUCH, 1);
        // FINDINGS of others that are laid
        Twins laid = twins(o -> {
            o.policy(LIABILITY, 0, 0, 1000);
            o.period(2, 0, 5);
            o.type(0, 0);
            Tape.type(o, "year 70;");
            o.clauses(2);
            o.notify(2, NONE, 0, 110);
            o.notify(2, NONE, 1, 110);
            o.item(o.loss(THIRD, 100), 0, 90, 90);
            o.notify(2, NONE, 2, 110);
        });
        laid.refused("MUCH, with two of others", o -> o.pay(4, 110, 71), MUCH, 2);
        laid.refused("owed() as BAD meets none", o -> o.owed(4, 109, o.count(4)), NO_ANSWER, 0);
    }

    private static void reopenings() {
        check.sentence("REFUSALS, of several the first one: BAD (a number is not as told, or names nothing), STATE (as told),"
                + " DAY (ahead of what it may not be ahead of), LATE, MUCH, FULL. They change nothing (but FINDINGS that were"
                + " met are counted, and how often takeIn() was tried).");
        Twins t = twins(o -> o.close(0, 120));
        t.refused("LATE by ground 0", o -> o.reopen(0, 151, 0), LATE);
        t.refused("LATE by ground 1", o -> o.reopen(0, 486, 1), LATE);
        t.refused("BAD ahead of LATE", o -> o.reopen(0, 486, 3), BAD);
        t.refused("DAY", o -> o.reopen(0, 119, 0), DAY);
        twins(o -> { }).refused("STATE ahead of LATE", o -> o.reopen(0, 10949, 0), STATE);
        Twins full = twins(o -> {
            repeat(37, () -> o.salvage(0, 120, 0));
            o.close(0, 120);
        });
        full.refused("LATE ahead of FULL", o -> o.reopen(0, 151, 0), LATE);
        full.refused("FULL", o -> o.reopen(0, 150, 0), FULL);
    }

    private static void recourses() {
        check.sentence("REFUSALS, of several the first one: BAD (a number is not as told, or names nothing), STATE (as told),"
                + " DAY (ahead of what it may not be ahead of), LATE, MUCH, FULL. They change nothing (but FINDINGS that were"
                + " met are counted, and how often takeIn() was tried).");
        Twins t = twins(o -> { });
        t.refused("MUCH", o -> o.recourse(0, 120, 101), MUCH);
        t.refused("DAY ahead of MUCH", o -> o.recourse(0, 119, 101), DAY);
        t.refused("BAD ahead of MUCH", o -> o.recourse(0, 120, 1000000000001L), BAD);
        twins(o -> o.close(0, 120)).refused("STATE ahead of MUCH", o -> o.recourse(0, 120, 101), STATE);
        Twins full = twins(o -> repeat(38, () -> o.salvage(0, 120, 0)));
        full.refused("MUCH ahead of FULL", o -> o.recourse(0, 120, 101), MUCH);
        full.refused("FULL", o -> o.recourse(0, 120, 100), FULL);
    }

    private static void batches() {
        check.sentence("While a BATCH is under way all acts but FACTS, end(), undo(), and write(), takeIn() are STATE,"
                + " ahead of all others.");
        Twins t = twins(o -> {
            o.batch();
            o.close(0, 120);
        });
        t.refused("person", o -> o.person(), STATE);
        t.refused("rank", o -> o.rank(0, 0), STATE);
        t.refused("a BAD rank", o -> o.rank(6, 0), STATE);
        t.refused("policy", o -> o.policy(0, 0, 0, 5), STATE);
        t.refused("a BAD policy", o -> o.policy(7, 0, 0, 5), STATE);
        t.refused("bundle", o -> o.bundle(1, 0, 0), STATE);
        t.refused("a BAD bundle", o -> o.bundle(0, 0, 0), STATE);
        t.refused("period", o -> o.period(0, 0, 5), STATE);
        t.refused("a BAD period", o -> o.period(1, 0, 5), STATE);
        t.refused("clauses", o -> o.clauses(0), STATE);
        t.refused("BAD clauses", o -> o.clauses(1), STATE);
        t.refused("shareRule", o -> o.shareRule(0, 0), STATE);
        t.refused("a BAD shareRule", o -> o.shareRule(0, 3), STATE);
        t.refused("loss", o -> o.loss(0, 5), STATE);
        t.refused("a BAD loss", o -> o.loss(5, 5), STATE);
        t.refused("part", o -> o.part(0, 5), STATE);
        t.refused("a BAD part", o -> o.part(0, 0), STATE);
        t.refused("item", o -> o.item(0, 0, 5, 5), STATE);
        t.refused("a BAD item", o -> o.item(1, 0, 5, 5), STATE);
        t.refused("notify", o -> o.notify(0, NONE, 0, 110), STATE);
        t.refused("a BAD notify", o -> o.notify(0, 0, 0, 110), STATE);
        t.refused("notify on a DAY ahead", o -> o.notify(0, NONE, 0, 109), STATE);
        t.refused("batch", o -> o.batch(), STATE);
        t.refused("write", o -> o.write(), STATE);
        t.refused("takeIn", o -> o.takeIn(), STATE);
        Twins held = twins(o -> {
            o.batch();
            repeat(60, () -> o.close(0, 120));
        });
        for (Fact fact : Fact.values()) {
            held.refused("the 61st: " + fact, o -> fact.tell(o, 0, 120), FULL);
        }
        Twins none = twins(o -> { });
        none.refused("end of none", o -> o.end(), STATE);
        none.refused("undo of none", o -> o.undo(), STATE);
    }

    private static void tapes() {
        check.sentence("They change nothing (but FINDINGS that were met are counted, and how often takeIn() was tried).");
        Twins t = twins(o -> { });
        t.refused("n = 9", o -> o.type(7, 9), BAD);
        t.refused("n = -1", o -> o.type(7, -1), BAD);
        // THE TAPE is "by loss;": its first byte goes on, 49 is no act
        t.refused("not as told", o -> o.takeIn(), -10);
        Twins tried = twins(o -> repeat(40, o::takeIn));
        tried.refused("FULL", o -> o.takeIn(), FULL);
        // the 40th try is counted, though it was refused
        Office o = new Office();
        begin(o);
        repeat(39, o::takeIn);
        check.due("the 40th", o.takeIn(), -10);
        check.due("the 41st", o.takeIn(), FULL);
    }

    private static void toldCounts() {
        check.sentence("\"Told\" of rank() to shareRule(): each telling counts towards FULL, and the last one KNOWN holds.");
        // the same again and again counts, too; refused ones do not
        Office o = new Office();
        begin(o);
        for (int i = 0; i < 60; i++) {
            check.due("the same rank", o.rank(0, 0), 1);
            o.rank(0, 10);
        }
        check.due("the 61st", o.rank(0, 0), FULL);
        check.due("the others have room", o.shareRule(0, 0), 1);
        o = new Office();
        begin(o);
        for (int i = 0; i < 150; i++) {
            check.due("the same rule", o.shareRule(0, 1), 1);
        }
        check.due("the 151st", o.shareRule(0, 1), FULL);
        check.due("the others have room", o.rank(0, 1), 1);
        check.due("the others have room", o.clauses(0), 1);
        check.due("the others have room", o.period(0, 0, 700), 1);
        check.due("the others have room", o.bundle(1, 0, 0), 1);
        // the last one KNOWN holds: by the SUM of a DWELLING
        Desk d = Desk.with(check, 0, 100);
        d.claim(FIRE, 5, 1000, 1000);
        int now = (int) d.now();
        for (int i = 1; i <= 5; i++) {
            d.office.period(0, 0, 100 * i);
        }
        for (int i = 0; i <= 5; i++) {
            d.due("as KNOWN at " + (now + i), d.office.owed(0, 5, now + i), i == 0 ? 100 : 100 * i);
        }
        d.office.period(0, 1, 1);
        d.due("of another YEAR", d.owed(0, 5), 500);
    }

    private static void asks() {
        check.sentence("asks. BAD, NO_ANSWER: a number names nothing, or is not as told; a moment above now,"
                + " or of a case ahead of its own; a day ahead of its NOTICE.");
        Twins t = twins(o -> { });
        int now = 12;
        Office o = new Office();
        begin(o);
        check.due("now", o.count(4), now);
        int moment = o.of(0, 6);
        for (int w : new int[] {LOWEST, -1, 2, HIGHEST}) {
            t.refused("owed of case " + w, x -> x.owed(w, 120, now), NO_ANSWER);
            t.refused("of case " + w, x -> x.of(w, 0), BAD);
            t.refused("used of policy " + w, x -> x.used(w, 0, now), NO_ANSWER);
            t.refused("left of policy " + w, x -> x.left(w, 0, now), NO_ANSWER);
            t.refused("tell policy " + w, x -> x.tell(w, now), BAD);
            t.refused("row, what " + w, x -> x.row(0, w), BAD);
        }
        for (int w : new int[] {LOWEST, -1, now + 1, HIGHEST}) {
            t.refused("owed at " + w, x -> x.owed(0, 120, w), NO_ANSWER);
            t.refused("tell at " + w, x -> x.tell(0, w), BAD);
            t.refused("used at " + w, x -> x.used(0, 0, w), NO_ANSWER);
            t.refused("left at " + w, x -> x.left(0, 0, w), NO_ANSWER);
            t.refused("reserved at " + w, x -> x.reserved(0, 0, w), NO_ANSWER);
            t.refused("run at " + w, x -> x.run(0, 0, 0, w), NO_ANSWER);
            t.refused("factor at " + w, x -> x.factor(0, 0, 1, 0, w), NO_ANSWER);
        }
        t.refused("ahead of the case", x -> x.owed(0, 120, moment - 1), NO_ANSWER);
        t.refused("ahead of the NOTICE", x -> x.owed(0, 109, now), NO_ANSWER);
        t.refused("of a BUNDLE", x -> x.used(1, 0, now), NO_ANSWER);
        t.refused("of a BUNDLE", x -> x.left(1, 0, now), NO_ANSWER);
        t.refused("of a BUNDLE", x -> x.tell(1, now), BAD);
        t.refused("count", x -> x.count(11), BAD);
        t.refused("of", x -> x.of(0, 7), BAD);
    }

    private static void asksOfMoments() {
        check.sentence("asks. BAD, NO_ANSWER: a number names nothing, or is not as told; a moment above now,"
                + " or of a case ahead of its own; a day ahead of its NOTICE.");
        Office o = new Office();
        begin(o);
        int now = o.count(4);
        check.due("at its own moment", o.owed(0, 110, o.of(0, 6)), 900);
        check.due("a moment ahead of it", o.owed(0, 110, o.of(0, 6) - 1), NO_ANSWER);
        check.due("of the other, at its own", o.owed(1, 110, o.of(1, 6)), 450);
        check.due("of the other, ahead of it", o.owed(1, 110, o.of(1, 6) - 1), NO_ANSWER);
        check.due("on the day of the NOTICE", o.owed(0, 110, now), 900);
        check.due("on the day before", o.owed(0, 109, now), NO_ANSWER);
        // a POLICY has no such moment: nothing was told of it then
        check.due("tell at 0", o.tell(0, 0), 0);
        check.due("used at 0", o.used(0, 0, 0), 0);
        check.due("now", o.used(0, 0, now), 100);
        check.due("above now", o.used(0, 0, now + 1), NO_ANSWER);
        // an act makes the next moment one that may be asked for
        o.person();
        check.due("now", o.used(0, 0, now + 1), 100);
        // WATER is not covered: it is LOOKED AT all the same
        o.item(o.loss(WATER, 110), 0, 5, 5);
        o.notify(0, NONE, 2, 110);
        check.due("owed", o.owed(2, 110, o.count(4)), 0);
        check.due("OUT", o.row(1, 0), 1);
    }
}
