/** Promises 1 to 13: a new object, and what is told and made. */
public final class TellingTest {
    private static final int NONE = -1, BAD = -2, STATE = -3, DAY = -4, FULL = -7, HELD = -8;
    private static final int LOWEST = Integer.MIN_VALUE, HIGHEST = Integer.MAX_VALUE;
    private static final long MOST = 1000000000000L;
    private static final Check check = new Check();

    public static void main(String[] args) {
        newObject();
        persons();
        ranks();
        policies();
        bundles();
        periods();
        tape();
        clauses();
        faults();
        shareRules();
        losses();
        parts();
        items();
        notices();
        check.done();
    }

    private static Desk desk() {
        return new Desk(check);
    }

    private static void newObject() {
        Office o = desk().office;
        for (int what = 0; what <= 10; what++) {
            check.due("1 count(" + what + ")", o.count(what), 0);
        }
        check.due("1 finding()", o.finding(), 0);
        check.due("1 row(0, 0)", o.row(0, 0), NONE);
        check.due("1 trace(0)", o.trace(0), NONE);
        check.due("1 letter(0)", o.letter(0), NONE);
        check.due("1 of(0, 0)", o.of(0, 0), BAD);
        check.due("1 run(0, 0, 0, 0)", o.run(0, 0, 0, 0), 0);
        check.due("1 owed(0, 0, 0)", o.owed(0, 0, 0), ClaimsOffice.NO_ANSWER);
    }

    private static void persons() {
        Office o = desk().office;
        o.batch();
        check.due("2 person() in a batch", o.person(), STATE);
        o.undo();
        for (int i = 0; i < 100; i++) {
            check.due("2 person()", o.person(), i);
        }
        check.due("2 the 101st person()", o.person(), FULL);
        check.due("2 its moment", o.count(4), 100);
        check.due("2 persons", o.count(0), 100);
    }

    private static void ranks() {
        Office o = desk().office;
        check.due("3 rank(-1, 0)", o.rank(-1, 0), BAD);
        check.due("3 rank(6, 0)", o.rank(6, 0), BAD);
        check.due("3 rank(0, -1)", o.rank(0, -1), BAD);
        check.due("3 rank(0, 10)", o.rank(0, 10), BAD);
        for (int i = 0; i < 60; i++) {
            check.due("3 rank", o.rank(i % 6, i % 10), 1);
        }
        check.due("3 the 61st rank", o.rank(0, 0), FULL);
        check.due("3 a bad one behind it", o.rank(6, 0), BAD);
        check.due("3 moment", o.count(4), 60);
        o.batch();
        check.due("3 a bad rank in a batch", o.rank(6, 0), STATE);

        // from its MOMENT on, and of one RANK by numbers: who gets the odd cent
        Desk d = Desk.with(check, 2, 0);
        int c = d.claim(0, 10, 5, 5);
        d.office.share(c, 10, 1, 5);
        d.due("3 the odd cent goes to this office", d.owed(c, 10), 3);
        d.office.rank(1, 0);
        d.due("3 of one rank by numbers", d.owed(c, 10), 3);
        d.office.rank(0, 9);
        d.due("3 by rank", d.owed(c, 10), 2);
        d.due("3 as known before", d.office.owed(c, 10, (int) d.now() - 1), 3);
    }

    private static void policies() {
        Office o = desk().office;
        check.due("4 without a person", o.policy(0, 0, 0, 0), BAD);
        o.person();
        int[][] bad = {{-1, 0, 0, 1}, {7, 0, 0, 1}, {0, 1, 0, 1}, {0, -1, 0, 1}, {0, 0, -1, 1}, {0, 0, 1, 10950},
            {0, 0, 5, 4}, {0, 0, 10950, 10950}, {LOWEST, LOWEST, LOWEST, LOWEST}, {HIGHEST, HIGHEST, HIGHEST, HIGHEST}};
        for (int[] b : bad) {
            check.due("4 bad policy", o.policy(b[0], b[1], b[2], b[3]), BAD);
        }
        check.due("4 one day", o.policy(0, 0, 10949, 10949), 0);
        check.due("4 all days, a bundle", o.policy(6, 0, 0, 10949), 1);
        for (int i = 2; i < 100; i++) {
            check.due("4 policy", o.policy(i % 7, 0, i, i), i);
        }
        check.due("4 the 101st", o.policy(0, 0, 0, 1), FULL);
        check.due("4 there is no policy 100", o.bundle(100, 0, NONE), BAD);
        check.due("4 there is no policy 100", o.bundle(6, 0, 100), BAD);
        check.due("4 a bad one behind it", o.policy(9, 0, 0, 1), BAD);
        check.due("4 policies", o.count(1), 100);
        check.due("4 moment", o.count(4), 101);
    }

    private static void bundles() {
        Office o = desk().office;
        o.person();
        o.policy(6, 0, 0, 10);
        o.policy(6, 0, 0, 10);
        o.policy(6, 0, 0, 10);
        o.policy(2, 0, 0, 10);
        check.due("5 no such policy", o.bundle(4, 0, 3), BAD);
        check.due("5 no bundle", o.bundle(3, 0, 3), BAD);
        check.due("5 no such place", o.bundle(0, 4, 3), BAD);
        check.due("5 no such place", o.bundle(0, -1, 3), BAD);
        check.due("5 no such part", o.bundle(0, 0, 4), BAD);
        check.due("5 no such part", o.bundle(0, 0, -2), BAD);
        check.due("5 in itself", o.bundle(0, 3, 0), STATE);
        check.due("5 in another", o.bundle(0, 3, 1), 1);
        check.due("5 round by two", o.bundle(1, 0, 0), STATE);
        check.due("5 in another", o.bundle(1, 2, 2), 1);
        check.due("5 round by three", o.bundle(2, 1, 0), STATE);
        check.due("5 the same part twice", o.bundle(0, 2, 2), 1);
        check.due("5 taken out", o.bundle(1, 2, NONE), 1);
        check.due("5 not round any more", o.bundle(2, 1, 1), 1);
        check.due("5 round the other way", o.bundle(1, 0, 2), STATE);
        check.due("5 nothing where nothing was", o.bundle(2, 3, NONE), 1);
        int told = 6;
        for (; told < 200; told++) {
            check.due("5 bundle", o.bundle(0, 0, 3), 1);
        }
        check.due("5 the 201st", o.bundle(0, 0, 3), FULL);
        check.due("5 a round one behind it", o.bundle(0, 0, 0), STATE);

        // what is in a PLACE counts, of a BUNDLE there what is in its PLACE 0, as known then
        Desk d = desk();
        o = d.office;
        o.person();
        o.policy(6, 0, 0, 10);
        o.policy(6, 0, 0, 10);
        o.policy(2, 0, 0, 10);
        o.period(2, 0, 5);
        o.loss(0, 3);
        o.item(0, 1, 70, 80);
        int c = o.notify(0, 2, 0, 3);
        d.dueRows(c, 3, "none f1");
        o.bundle(0, 2, 1);
        d.dueRows(c, 3, "none f1");
        o.bundle(1, 1, 2);
        d.dueRows(c, 3, "none f1");
        o.bundle(1, 0, 2);
        d.dueRows(c, 3, "70 f0 | 0 0 70");
        o.bundle(1, 0, NONE);
        d.dueRows(c, 3, "none f1");
        d.due("5 as known before", o.owed(c, 3, (int) d.now() - 1), 70);
    }

    private static void periods() {
        Office o = desk().office;
        o.person();
        o.policy(0, 0, 364, 730);
        o.policy(6, 0, 364, 730);
        check.due("6 no such policy", o.period(2, 0, 1), BAD);
        check.due("6 a bundle", o.period(1, 0, 1), BAD);
        check.due("6 no year of it", o.period(0, 3, 1), BAD);
        check.due("6 no year of it", o.period(0, -1, 1), BAD);
        check.due("6 lowest year", o.period(0, LOWEST, 1), BAD);
        check.due("6 highest year", o.period(0, HIGHEST, 1), BAD);
        check.due("6 money", o.period(0, 0, -1), BAD);
        check.due("6 money", o.period(0, 0, MOST + 1), BAD);
        check.due("6 first year", o.period(0, 0, 0), 1);
        check.due("6 last year", o.period(0, 2, MOST), 1);
        for (int i = 2; i < 300; i++) {
            check.due("6 period", o.period(0, 1, i), 1);
        }
        check.due("6 the 301st", o.period(0, 1, 1), FULL);
        check.due("6 a bad one behind it", o.period(0, 3, 1), BAD);
        check.due("6 moment", o.count(4), 303);

        // the last one known holds
        Desk d = Desk.with(check, 0, 50);
        int c = d.claim(0, 10, 100, 100);
        d.due("6 half of it", d.owed(c, 10), 50);
        d.office.period(0, 0, 70);
        d.due("6 more of it", d.owed(c, 10), 70);
        d.office.period(0, 1, 10);
        d.due("6 another year", d.owed(c, 10), 70);
        d.due("6 as known before", d.office.owed(c, 10, (int) d.now() - 2), 50);
    }

    private static void tape() {
        Desk d = desk();
        Office o = d.office;
        check.due("7 n = -1", o.type(0, -1), BAD);
        check.due("7 n = 9", o.type(0, 9), BAD);
        check.due("7 three bytes", o.type(0x1122334455667788L, 3), 3);
        check.due("7 eight bytes", o.type(0x8899aabbccddeeffL, 8), 11);
        check.due("7 on the tape", o.count(8), 11);
        check.due("7 empty", o.type(77, 0), 0);
        check.due("7 on the tape", o.count(8), 0);
        check.due("7 no moment", o.count(4), 0);
        o.batch();
        check.due("7 in a batch", o.type('i', 1), 1);
        o.undo();
        o.type('n', 1);
        o.person();
        o.policy(0, 0, 0, 5);
        o.type(0x20616e793b7fL >> 8, 5);
        check.due("7 the highest first", o.clauses(0), 1);
        o.tell(0, o.count(4));
        d.due("7 told", d.said(), "in any;\n");
    }

    private static void clauses() {
        Desk d = desk();
        Office o = d.office;
        o.person();
        o.policy(0, 0, 0, 5);
        o.policy(6, 0, 0, 5);
        d.due("8 no such policy", d.clauses(2, "average;"), BAD);
        d.due("8 a bundle", d.clauses(1, "average;"), BAD);
        d.due("8 the tape stays", o.count(8), 8);
        d.due("8 two", d.clauses(0, "average; by loss;"), 2);
        d.due("8 the tape is empty", o.count(8), 0);
        d.due("8 none", d.clauses(0, " \n "), 0);
        d.due("8 the tape is empty", o.count(8), 0);
        d.due("8 an empty tape", o.clauses(0), 0);
        d.due("8 moment", d.now(), 6);
        String text = "average;                ".repeat(20).substring(0, 400);
        d.due("8 just 400", d.clauses(0, text), 17);
        d.due("8 one more", d.clauses(0, text + " "), BAD);
        d.due("8 the tape stays", o.count(8), 401);
        o.batch();
        d.due("8 in a batch", o.clauses(0), STATE);
        o.undo();
        for (int i = 4; i < 150; i++) {
            o.type(0, 0);
            d.due("8 clauses", o.clauses(0), 0);
        }
        d.due("8 the 151st, ahead of a fault", d.clauses(0, "x"), FULL);
        d.due("8 a bad one behind it", d.clauses(1, "x"), BAD);
    }

    private static void faults() {
        Desk d = desk();
        d.office.person();
        d.office.policy(0, 0, 0, 5);
        fault("averages;", 0);
        fault("average", 7);
        fault("average  ", 9);
        fault("average;;", 8);
        fault("Average;", 0);
        fault("item;", 4);
        fault("item 123456789 0;", 15);
        fault("item 1234567890;", 14);
        fault("item 0000000001;", 14);
        fault("in 1234567890;", 3);
        fault("in fire,", 7);
        fault("in fire unless", 14);
        fault("in fire unless ;", 15);
        fault("in fire unless items 1 items", 23);
        fault("in fire unless items 1);", 22);
        fault("in fire unless (items 1;", 23);
        fault("in fire unless is amount;", 18);
        fault("in any unless not;", 17);
        fault("in any unless or items 1;", 14);
        fault("in any unless items 1 and or", 26);
        fault("own item 5;", 4);
        fault("own loss fire;", 9);
        fault("by year;", 3);
        fault("by;", 2);
        fault("- item 5;", 0);
        fault("item\t5;", 4);
        fault("item 5;\u00ff", 7);
        fault("infire;", 0);
        fault("inz fire;", 0);
        fault(";".repeat(400), 0);
        fault("interests 5;", 0);
        fault("in fire in water;", 8);
        fault("average;".repeat(31), 240);
        fault("average;".repeat(30) + " #", 241);
        d.due("8 thirty", d.clauses(0, "average;".repeat(30)), 30);
        fault("in any unless " + "not ".repeat(21) + "is any;", 94);
        fault("in any unless " + "(".repeat(21) + "is any", 34);
        fault("in any unless " + "not(".repeat(10) + "is any and not is any" + ")".repeat(10) + ";", 65);
        d.due("8 twenty open", d.clauses(0, "in any unless " + "not(".repeat(10) + "is any" + ")".repeat(10)
                + " and " + "not ".repeat(20) + "is any;"), 1);
        d.due("8 a not ends", d.clauses(0, "in any unless " + "(".repeat(19) + "not is any or not is fire"
                + ")".repeat(19) + ";"), 1);
    }

    private static void fault(String text, int want) {
        Desk d = desk();
        d.office.person();
        d.office.policy(0, 0, 0, 5);
        long now = d.now();
        d.due("8 fault of " + text, d.clauses(0, text), -10 - want);
        d.due("8 the tape stays", d.office.count(8), text.length());
        d.due("8 no moment", d.now(), now);
    }

    private static void shareRules() {
        Office o = desk().office;
        o.person();
        o.policy(0, 0, 0, 5);
        o.policy(6, 0, 0, 5);
        check.due("9 no such policy", o.shareRule(2, 0), BAD);
        check.due("9 a bundle", o.shareRule(1, 0), BAD);
        check.due("9 rule", o.shareRule(0, -1), BAD);
        check.due("9 rule", o.shareRule(0, 3), BAD);
        for (int i = 0; i < 150; i++) {
            check.due("9 shareRule", o.shareRule(0, i % 3), 1);
        }
        check.due("9 the 151st", o.shareRule(0, 0), FULL);
        check.due("9 a bad one behind it", o.shareRule(0, 3), BAD);

        // WORTH 90; this office owes 90 alone, insurer 1 30: T is 90
        Desk d = Desk.with(check, 2, 0);
        int c = d.claim(0, 10, 90, 90);
        d.office.share(c, 10, 1, 30);
        d.due("9 rule 0 at first", d.owed(c, 10), 68);
        d.office.shareRule(0, 1);
        d.due("9 rule 1", d.owed(c, 10), 60);
        d.office.shareRule(0, 2);
        d.due("9 rule 2", d.owed(c, 10), 90);
        d.due("9 as known before", d.office.owed(c, 10, (int) d.now() - 1), 60);
        d.due("9 as known at first", d.office.owed(c, 10, (int) d.now() - 2), 68);
    }

    private static void losses() {
        Office o = desk().office;
        check.due("10 kind", o.loss(-1, 0), BAD);
        check.due("10 kind of a part", o.loss(5, 0), BAD);
        check.due("10 day", o.loss(0, -1), BAD);
        check.due("10 day", o.loss(0, 10950), BAD);
        for (int i = 0; i < 200; i++) {
            check.due("10 loss", o.loss(i % 5, i == 0 ? 10949 : i), i);
        }
        check.due("10 the 201st", o.loss(0, 0), FULL);
        check.due("10 there is no loss 200", o.part(200, 50), BAD);
        check.due("10 a part behind it", o.part(0, 50), FULL);
        check.due("10 a bad one behind it", o.loss(5, 0), BAD);
        check.due("10 losses", o.count(2), 200);
        check.due("10 moment", o.count(4), 200);
    }

    private static void parts() {
        Office o = desk().office;
        check.due("11 no whole", o.part(0, 1), BAD);
        o.loss(0, 70);
        check.due("11 hundredths", o.part(0, 0), BAD);
        check.due("11 hundredths", o.part(0, 101), BAD);
        check.due("11 no whole", o.part(-1, 50), BAD);
        check.due("11 first", o.part(0, 1), 1);
        check.due("11 second", o.part(1, 100), 2);
        check.due("11 third", o.part(2, 50), 3);
        check.due("11 fourth", o.part(3, 50), 4);
        check.due("11 fifth", o.part(4, 50), STATE);
        check.due("11 bad ahead of it", o.part(4, 0), BAD);
        check.due("11 beside it", o.part(3, 50), 5);
        check.due("11 losses", o.count(2), 6);
        o.person();
        o.policy(0, 0, 0, 100);
        check.due("11 of the same day", o.notify(0, -1, 4, 69), DAY);
        check.due("11 of the same day", o.notify(0, -1, 4, 70), 0);
    }

    private static void items() {
        Office o = desk().office;
        check.due("12 no loss", o.item(0, 0, 0, 0), BAD);
        o.loss(0, 5);
        o.loss(0, 5);
        o.loss(0, 5);
        o.part(1, 50);
        o.part(3, 50);
        check.due("12 of a part", o.item(3, 0, 0, 0), BAD);
        check.due("12 sort", o.item(0, -1, 0, 0), BAD);
        check.due("12 sort", o.item(0, 10, 0, 0), BAD);
        check.due("12 amount", o.item(0, 0, -1, 0), BAD);
        check.due("12 amount", o.item(0, 0, MOST + 1, 0), BAD);
        check.due("12 value", o.item(0, 0, 0, -1), BAD);
        check.due("12 value", o.item(0, 0, 0, MOST + 1), BAD);
        for (int i = 1; i <= 6; i++) {
            check.due("12 item", o.item(0, 9, MOST, MOST), i);
        }
        check.due("12 the seventh", o.item(0, 0, 1, 1), FULL);
        check.due("12 a bad one", o.item(0, 10, 1, 1), BAD);
        check.due("12 of the whole of a part", o.item(1, 0, 1, 1), 1);
        o.person();
        o.policy(0, 0, 0, 100);
        o.notify(0, -1, 4, 5);
        check.due("12 a part of a part was notified", o.item(1, 0, 1, 1), STATE);
        check.due("12 another loss was not", o.item(2, 0, 1, 1), 1);
        o.notify(0, -1, 0, 5);
        check.due("12 notified, ahead of full", o.item(0, 0, 1, 1), STATE);
    }

    private static void notices() {
        Office o = desk().office;
        o.person();
        o.policy(0, 0, 0, 100);
        o.policy(6, 0, 0, 100);
        o.loss(0, 50);
        o.loss(0, 60);
        check.due("13 no such policy", o.notify(2, -1, 0, 50), BAD);
        check.due("13 a place", o.notify(0, 0, 0, 50), BAD);
        check.due("13 a bundle without", o.notify(1, -1, 0, 50), BAD);
        check.due("13 a bundle with a fifth", o.notify(1, 4, 0, 50), BAD);
        check.due("13 no such loss", o.notify(0, -1, 2, 50), BAD);
        check.due("13 no such loss", o.notify(0, -1, -1, 50), BAD);
        check.due("13 no day", o.notify(0, -1, 0, 10950), BAD);
        check.due("13 no day", o.notify(0, -1, 0, -1), BAD);
        check.due("13 ahead of the loss", o.notify(0, -1, 0, 49), DAY);
        check.due("13 on its day", o.notify(0, -1, 0, 50), 0);
        o.loss(0, 40);
        check.due("13 ahead of the only other notice", o.notify(0, -1, 2, 49), DAY);
        check.due("13 in a place", o.notify(1, 3, 1, 70), 1);
        check.due("13 ahead of another notice", o.notify(0, -1, 0, 69), DAY);
        for (int i = 2; i < 100; i++) {
            check.due("13 notify", o.notify(0, -1, 0, 70), i);
        }
        check.due("13 ahead of another notice", o.notify(0, -1, 0, 69), DAY);
        check.due("13 the 101st", o.notify(0, -1, 0, 70), FULL);
        check.due("13 there is no case 100", o.close(100, 70), BAD);
        check.due("13 cases", o.count(3), 100);
        check.due("13 moment of a case", o.of(1, 6), 8);
        o.batch();
        check.due("13 a fact is held", o.close(0, 70), HELD);
        check.due("13 in a batch", o.notify(0, -1, 0, 70), STATE);
    }
}
