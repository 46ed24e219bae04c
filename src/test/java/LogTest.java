/** Promises 31 to 41: what is told back, used, left, reserved, run, written, taken in, and counted. */
public final class LogTest {
    private static final int NONE = -1, BAD = -2, STATE = -3, MUCH = -6, FULL = -7;
    private static final long NO_ANSWER = ClaimsOffice.NO_ANSWER;
    private static final Check check = new Check();

    public static void main(String[] args) {
        toldBack();
        letters();
        usedAndLeft();
        usedByBundles();
        reserves();
        runs();
        factors();
        written();
        writtenNumbers();
        writtenBatches();
        takenIn();
        takenInNumbers();
        takenInText();
        takenInBatches();
        refusedTakings();
        whatStays();
        manyTakings();
        ofACase();
        counts();
        check.done();
    }

    // ---- 31, 32

    private static void toldBack() {
        Desk d = new Desk(check);
        Office o = d.office;
        o.person();
        o.policy(0, 0, 0, 5);
        o.policy(6, 0, 0, 5);
        d.due("31 no policy", o.tell(2, 0), BAD);
        d.due("31 a bundle", o.tell(1, 0), BAD);
        d.due("31 above now", o.tell(0, 4), BAD);
        d.due("31 below 0", o.tell(0, -1), BAD);
        d.due("31 no clauses", o.tell(0, 3), 0);
        told("in  fire;out\nany ;", "in fire;\nout any;\n");
        told("item007;loss 0 ;year 000000000;own loss 1;own year 2;wait 3;average;interest 4;by notice;by loss;",
                "item 7;\nloss 0;\nyear 0;\nown loss 1;\nown year 2;\nwait 3;\naverage;\ninterest 4;\nby notice;\n"
                + "by loss;\n");
        cond("amount1", "amount 1");
        cond("((is any))", "is any");
        cond("items 1 or(late 2 or sort 3)", "items 1 or late 2 or sort 3");
        cond("items 1 and(late 2 and sort 3)", "items 1 and late 2 and sort 3");
        cond("items 1 or (late 2 and sort 3)", "items 1 or late 2 and sort 3");
        cond("items 1 and (late 2 or sort 3)", "items 1 and (late 2 or sort 3)");
        cond("( ( items 1 or late 2 ) ) and sort 3", "(items 1 or late 2) and sort 3");
        cond("not(items 1)", "not items 1");
        cond("not(items 1 and late 2)", "not (items 1 and late 2)");
        cond("not((items 1 or late 2))", "not (items 1 or late 2)");
        cond("not(not(items 1))", "not not items 1");
        cond("(not items 1)and late 2", "not items 1 and late 2");
        cond("is third", "is third");
        d.clauses(0, "in any unless is third;");
        int now = o.count(4);
        d.clauses(0, "");
        o.tell(0, now);
        d.due("31 as known then", d.said(), "in any unless is third;\n");
        d.due("31 none now", o.tell(0, now + 1), 0);
        d.due("31 none at first", o.tell(0, 0), 0);
    }

    private static void told(String text, String want) {
        Desk d = new Desk(check);
        d.office.person();
        d.office.policy(0, 0, 0, 5);
        d.due("8 a text without fault: " + text, d.clauses(0, text) >= 0 ? 1 : 0, 1);
        d.due("31 length of " + text, d.office.tell(0, d.office.count(4)), want.length());
        d.due("31 " + text, d.said(), want);
    }

    private static void cond(String text, String want) {
        told("in any unless " + text + ";", "in any unless " + want + ";\n");
    }

    private static void letters() {
        Desk d = Desk.with(check, 2, 0);
        Office o = d.office;
        d.clauses(0, "average;");
        o.tell(0, o.count(4));
        d.due("32 letter", o.letter(0), 'a');
        d.due("32 letter", o.letter(8), 10);
        d.due("32 none", o.letter(9), NONE);
        d.due("32 none", o.letter(Integer.MIN_VALUE), NONE);
        o.tell(9, 0);
        d.due("32 what was refused said nothing", o.count(9), 9);
        o.say();
        d.due("32 what was said last", o.count(9), 0);
        o.write();
        d.due("32 a byte above 127", d.written().contains(" 140 17 ") ? 1 : 0, 1);
    }

    // ---- 33 to 37

    private static void usedAndLeft() {
        Desk d = Desk.with(check, 2, 0);
        Office o = d.office;
        o.policy(6, 0, 0, 5);
        int c = d.claim(0, 10, 500, 500);
        int later = d.claim(0, 365, 500, 500);
        o.pay(c, 400, 300);
        int now = o.count(4);
        o.recourse(c, 400, 100);
        o.pay(later, 400, 7);
        d.due("33 no policy", o.used(2, 0, now), NO_ANSWER);
        d.due("33 a bundle", o.used(1, 0, now), NO_ANSWER);
        d.due("33 no year", o.used(0, 30, now), NO_ANSWER);
        d.due("33 no year", o.used(0, -1, now), NO_ANSWER);
        d.due("33 no moment", o.used(0, 0, now + 3), NO_ANSWER);
        d.due("33 no moment", o.used(0, 0, -1), NO_ANSWER);
        d.due("33 at first", o.used(0, 0, 0), 0);
        d.due("33 before", o.used(0, 0, now - 1), 0);
        d.due("33 paid", o.used(0, 0, now), 300);
        d.due("33 less recourse", o.used(0, 0, now + 1), 200);
        d.due("33 by the year of the loss", o.used(0, 1, now + 2), 7);
        d.due("33 another year", o.used(0, 29, now + 2), 0);
        d.due("34 without year", o.left(0, 0, now + 2), NO_ANSWER);
        d.clauses(0, "year 250; own year 3;");
        d.due("34 left", o.left(0, 0, now + 3), 50);
        d.due("34 another year", o.left(0, 5, now + 3), 250);
        d.due("34 known before", o.left(0, 0, now + 2), NO_ANSWER);
        d.due("34 a bundle", o.left(1, 0, now + 3), NO_ANSWER);
        d.due("34 no year", o.left(0, 30, now + 3), NO_ANSWER);
        d.due("34 no moment", o.left(0, 0, now + 4), NO_ANSWER);
    }

    private static void usedByBundles() {
        Desk d = Desk.with(check, 2, 0);
        Office o = d.office;
        o.policy(6, 0, 0, 5);
        o.policy(2, 0, 0, 5);
        o.bundle(1, 3, 0);
        o.loss(0, 10);
        o.item(0, 0, 90, 90);
        o.notify(1, 3, 0, 10);
        o.pay(0, 10, 50);
        int now = o.count(4);
        d.due("33 of the cover", o.used(0, 0, now), 50);
        o.bundle(1, 3, 2);
        d.due("33 another cover now", o.used(0, 0, now + 1), 0);
        d.due("33 another cover now", o.used(2, 0, now + 1), 50);
        d.due("33 as known before", o.used(0, 0, now), 50);
    }

    private static void reserves() {
        Desk d = Desk.with(check, 2, 0);
        Office o = d.office;
        int a = d.claim(0, 10, 500, 500);
        int b = d.claim(0, 10, 500, 500);
        int later = d.claim(0, 365, 500, 500);
        int now = o.count(4);
        o.reserve(a, 400, 1, 100);
        o.reserve(b, 400, 1, 20);
        o.reserve(a, 401, 1, 70);
        o.reserve(a, 401, 2, 5);
        o.reserve(later, 401, 1, 3);
        o.close(b, 9000);
        d.due("35 kind", o.reserved(3, 0, now), NO_ANSWER);
        d.due("35 kind", o.reserved(-1, 0, now), NO_ANSWER);
        d.due("35 year", o.reserved(0, 30, now), NO_ANSWER);
        d.due("35 year", o.reserved(0, -1, now), NO_ANSWER);
        d.due("35 moment", o.reserved(0, 0, now + 7), NO_ANSWER);
        d.due("35 moment", o.reserved(0, 0, -1), NO_ANSWER);
        d.due("35 none", o.reserved(1, 0, now), 0);
        d.due("35 one", o.reserved(1, 0, now + 1), 100);
        d.due("35 two", o.reserved(1, 0, now + 2), 120);
        d.due("35 the last", o.reserved(1, 0, now + 3), 90);
        d.due("35 another kind", o.reserved(2, 0, now + 5), 5);
        d.due("35 another year", o.reserved(1, 1, now + 5), 3);
        d.due("35 one is not open", o.reserved(1, 0, now + 6), 70);
        o.reopen(b, 9001, 0);
        d.due("35 open again", o.reserved(1, 0, now + 7), 90);
    }

    /** Cases of losses in the YEARS 0, 0 and 1, notified in 0, 1 and 1. */
    private static Desk paid() {
        Desk d = Desk.with(check, 2, 0);
        Office o = d.office;
        int[][] days = {{10, 20}, {364, 365}, {400, 400}};
        for (int i = 0; i < 3; i++) {
            o.loss(0, days[i][0]);
            o.item(i, 0, 100000, 100000);
            o.notify(0, -1, i, days[i][1]);
        }
        o.pay(0, 300, 100);
        o.pay(0, 365, 50);
        o.pay(1, 400, 10);
        o.pay(2, 1000, 7);
        o.pay(0, 10949, 3);
        return d;
    }

    private static void runs() {
        Desk d = paid();
        Office o = d.office;
        int now = o.count(4);
        d.due("36 by", o.run(2, 0, 0, now), NO_ANSWER);
        d.due("36 by", o.run(-1, 0, 0, now), NO_ANSWER);
        d.due("36 row", o.run(0, 30, 0, now), NO_ANSWER);
        d.due("36 row", o.run(0, -1, 0, now), NO_ANSWER);
        d.due("36 column", o.run(0, 0, 30, now), NO_ANSWER);
        d.due("36 column", o.run(0, 0, -1, now), NO_ANSWER);
        d.due("36 moment", o.run(0, 0, 0, now + 1), NO_ANSWER);
        d.due("36 moment", o.run(0, 0, 0, -1), NO_ANSWER);
        d.due("36 by loss", o.run(0, 0, 0, now), 100);
        d.due("36 by loss", o.run(0, 0, 1, now), 60);
        d.due("36 by loss", o.run(0, 0, 29, now), 3);
        d.due("36 by loss", o.run(0, 1, 1, now), 7);
        d.due("36 by loss", o.run(0, 1, 0, now), 0);
        d.due("36 by notice", o.run(1, 0, 1, now), 50);
        d.due("36 by notice", o.run(1, 1, 0, now), 10);
        d.due("36 by notice", o.run(1, 1, 1, now), 7);
        d.due("36 known", o.run(0, 0, 1, now - 3), 50);
        d.due("36 known", o.run(0, 0, 1, now - 4), 0);
        d.due("36 nothing there", o.run(0, 29, 29, now), 0);
    }

    private static void factors() {
        Desk d = paid();
        Office o = d.office;
        int now = o.count(4);
        int[][] bad = {{2, 0, 0, 0, now}, {-1, 0, 0, 0, now}, {0, 30, 5, 0, now}, {0, -1, 5, 0, now},
            {0, 0, 30, 0, now}, {0, 0, -1, 0, now}, {0, 0, 5, 2, now}, {0, 0, 5, -1, now}, {0, 0, 5, 0, now + 1},
            {0, 0, 5, 0, -1}};
        for (int[] b : bad) {
            d.due("37 bad", o.factor(b[0], b[1], b[2], b[3], b[4]), NO_ANSWER);
        }
        d.due("37 without rows", o.factor(0, 0, 0, 0, now), NO_ANSWER);
        d.due("37 without rows", o.factor(0, 5, 3, 0, now), NO_ANSWER);
        d.due("37 row 0: 160 by 100", o.factor(0, 0, 1, 0, now), 8);
        d.due("37 row 0: 160 by 100", o.factor(0, 0, 1, 1, now), 5);
        d.due("37 rows 0, 1: 167 by 100", o.factor(0, 0, 2, 0, now), 167);
        d.due("37 rows 0, 1: 167 by 100", o.factor(0, 0, 2, 1, now), 100);
        d.due("37 row 0, columns 0 .. 2 by 0 .. 1", o.factor(0, 1, 2, 0, now), 1);
        d.due("37 row 0, columns 0 .. 29 by 0 .. 28", o.factor(0, 28, 29, 0, now), 163);
        d.due("37 row 0, columns 0 .. 29 by 0 .. 28", o.factor(0, 28, 29, 1, now), 160);
        d.due("37 by notice: 167 by 110", o.factor(1, 0, 2, 0, now), 167);
        d.due("37 by notice: 167 by 110", o.factor(1, 0, 2, 1, now), 110);
        d.due("37 nought", o.factor(0, 0, 1, 0, now - 5), NO_ANSWER);
        d.due("37 no finding is counted", o.count(10), 0);
    }

    // ---- 38

    private static void written() {
        Desk d = new Desk(check);
        Office o = d.office;
        d.due("38 an empty log", o.write(), 4);
        d.due("38 its bytes", Desk.numbers(d.said()), "0 0 0 0");
        o.person();
        d.due("38 one act", d.written(), "2 0 0 0 2");
        o.person();
        o.rank(9, 9);
        d.due("38 two acts", d.written(), "2 2 0 0 0 64");
        d.due("38 bytes", o.count(9), 6);
    }

    private static void writtenNumbers() {
        Desk d = new Desk(check);
        Office o = d.office;
        o.person();
        o.policy(2, 0, 63, 10949);
        o.period(0, 0, 64);
        o.period(0, 0, 1000000000000L);
        o.shareRule(0, 1);
        d.clauses(0, "item 7;");
        o.loss(4, 64);
        o.part(0, 100);
        o.item(0, 9, 63, 8192);
        o.notify(0, -1, 1, 64);
        String acts = "2 6 4 0 126 138 171 1 10 0 0 128 1 10 0 0 128 192 168 202 154 58 14 0 2"
                + " 12 0 14 210 1 232 1 202 1 218 1 64 110 118 16 8 128 1 18 0 200 1 20 0 18 126 128 128 1"
                + " 22 0 1 2 128 1";
        d.due("38 all kinds of numbers", d.written().startsWith(acts + " ") ? acts : Desk.numbers(d.said()), acts);
        d.due("38 and four bytes more", d.written().split(" ").length, acts.split(" ").length + 4);
    }

    private static void writtenBatches() {
        Desk d = Desk.with(check, 2, 0);
        Office o = d.office;
        d.claim(0, 5, 5, 5);
        o.write();
        String before = d.said().substring(0, o.count(9) - 4);
        o.batch();
        o.close(0, 5);
        o.undo();
        o.batch();
        o.reserve(-1, Integer.MIN_VALUE, Integer.MAX_VALUE, Long.MIN_VALUE);
        o.reserve(0, 5, 0, Long.MAX_VALUE);
        o.end();
        o.batch();
        o.correct(0, 5, 0, 1, 2, 3);
        o.end();
        o.pay(0, 5, 6);
        o.batch();
        o.end();
        o.write();
        String after = d.said().substring(before.length(), o.count(9) - 4);
        d.due("38 batches", Desk.numbers(after), "40 28 0 10 44"
                + " 40 24 1 255 255 255 255 15 254 255 255 255 15 255 255 255 255 255 255 255 255 255 1"
                + " 24 0 10 0 254 255 255 255 255 255 255 255 255 1 42"
                + " 40 32 0 10 0 2 4 6 42 40 42");
    }

    // ---- 39

    private static void takenIn() {
        Desk d = Desk.with(check, 2, 1000);
        Office o = d.office;
        d.clauses(0, "in any unless amount 90000; interest 77;");
        o.policy(6, 0, 0, 500);
        o.bundle(1, 2, 0);
        o.rank(3, 7);
        o.shareRule(0, 1);
        d.claim(0, 5, 800, 900);
        o.part(0, 50);
        o.notify(1, 2, 1, 7);
        o.share(1, 9, 4, 100);
        o.pay(0, 30, 100);
        o.batch();
        o.close(0, 31);
        o.close(0, 31);
        o.end();
        o.reserve(1, 9, 2, 44);
        o.recourse(0, 40, 1);
        o.salvage(0, 40, 2);
        o.batch();
        o.correct(0, 40, 0, 1, 850, 35);
        o.close(0, 41);
        o.reopen(0, 41, 0);
        o.end();
        o.write();
        String log = d.said();
        String rows = d.rows(0, 60) + d.rows(1, 60);

        Desk other = new Desk(check);
        Office n = other.office;
        n.person();
        n.person();
        d.due("39 acts", other.takeIn(log), 29);
        d.due("39 the tape is empty", n.count(8), 0);
        n.write();
        d.due("39 written again", Desk.numbers(other.said()), Desk.numbers(log));
        d.due("39 the same rows", other.rows(0, 60) + other.rows(1, 60), rows);
        for (int what = 0; what <= 7; what++) {
            d.due("39 count " + what, n.count(what), o.count(what));
        }
        for (int what = 0; what <= 6; what++) {
            d.due("39 of " + what, n.of(0, what), o.of(0, what));
            d.due("39 of " + what, n.of(1, what), o.of(1, what));
        }
        d.due("39 used", n.used(0, 0, n.count(4)), o.used(0, 0, o.count(4)));
        d.due("39 it goes on", n.reserve(0, 60, 0, 5), 1);
        d.due("39 an office again, with nothing", other.takeIn(Desk.checked()), 0);
        d.due("39 nothing is left", n.count(4), 0);
        d.due("39 nothing is left", n.write(), 4);
    }

    private static void refused(String what, int place, int... bytes) {
        Desk d = new Desk(check);
        d.office.person();
        String text = Desk.checked(bytes);
        check.due("39 " + what, d.takeIn(text), -10 - place);
        check.due("39 the tape stays: " + what, d.office.count(8), text.length());
        check.due("39 nothing changes: " + what, d.office.count(0), 1);
    }

    private static void takenInNumbers() {
        refused("act 0", 1, 2, 0);
        refused("act 23", 1, 2, 46);
        refused("act -1", 0, 1);
        refused("an act of two bytes", 1, 2, 130, 0, 2);
        refused("an argument with a byte too many", 1, 2, 4, 0, 138, 0);
        refused("an argument that is no int", 1, 2, 4, 0, 128, 128, 128, 128, 16);
        refused("beyond 64 bits", 2, 2, 2, 4, 0, 128, 128, 128, 128, 128, 128, 128, 128, 128, 2);
        refused("eleven bytes", 2, 2, 2, 4, 0, 128, 128, 128, 128, 128, 128, 128, 128, 128, 129, 1);
        refused("a cut act", 1, 2, 4, 0);
        refused("a cut number", 1, 2, 4, 0, 130);
        refused("a refused act", 1, 2, 4, 12, 0, 2);
        Desk d = new Desk(check);
        d.due("39 three bytes", d.takeIn("\0\0\0"), -10);
        d.due("39 no bytes", d.takeIn(""), -10);
        d.due("39 a wrong check", d.takeIn("\2\0\0\0\3"), -11);
        d.due("39 a wrong check", d.takeIn("\0\0\0\1"), -10);
        d.due("39 the tape stays", d.office.count(8), 4);
        d.due("39 an act ahead of a wrong check", d.takeIn("\2\56\0\0\0\3"), -11);
        d.due("39 act and check", d.takeIn("\2\0\0\0\2"), 1);
        d.due("39 cut in the check", d.takeIn("\2\4\0\0\0"), -11);
        // longs as big as they come are held, and an int that is just one
        d.due("39 held", d.takeIn(Desk.checked(40, 26, 0, 0, 255, 255, 255, 255, 255, 255, 255, 255, 255, 1,
                28, 255, 255, 255, 255, 15, 254, 255, 255, 255, 15, 44)), 4);
        d.due("39 moment", d.now(), 0);
        d.due("39 tries", d.office.count(6), 1);
        refused("no int in a held act", 1, 40, 28, 128, 128, 128, 128, 16, 0, 44);
        refused("no int in a held act", 1, 40, 28, 129, 128, 128, 128, 16, 0, 44);
        int[] arguments = {4, 3, 2, 3, 6, 4, 3, 3};
        int[] longs = {3, 2, -1, -1, 4, 3, 2, 2};
        for (int act = 12; act <= 19; act++) {
            for (int k = 0; k < arguments[act - 12]; k++) {
                takeInHeld(act, arguments[act - 12], k, k == longs[act - 12]);
            }
        }
    }

    /** A held act whose argument k is 2^31, which is no int. */
    private static void takeInHeld(int act, int arguments, int k, boolean isLong) {
        int[] bytes = new int[arguments + 7];
        bytes[0] = 40;
        bytes[1] = 2 * act;
        int at = 2;
        for (int i = 0; i < arguments; i++) {
            int[] number = i == k ? new int[] {128, 128, 128, 128, 16} : new int[] {0};
            for (int b : number) {
                bytes[at++] = b;
            }
        }
        bytes[at] = 44;
        check.due("39 argument " + k + " of act " + act, new Desk(check).takeIn(Desk.checked(bytes)),
                isLong ? 3 : -11);
    }

    private static void takenInText() {
        int[] made = {2, 6, 4, 0, 0, 2};
        refusedText("a fault", made, 12, 0, 2, 59 * 2);
        refusedText("less than no bytes", made, 12, 0, 1);
        refusedText("401 bytes", made, 12, 0, 162, 6);
        refusedText("a byte below 0", made, 12, 0, 2, 1);
        refusedText("a byte above 255", made, 12, 0, 2, 128, 4);
        refusedText("a cut text", made, 12, 0, 4, 64);
        refusedText("no policy", made, 12, 2, 0);
        Desk d = new Desk(check);
        d.due("39 blanks", d.takeIn(Desk.checked(2, 6, 4, 0, 0, 2, 12, 0, 4, 64, 20)), 3);
        int[] long400 = new int[9 + 400];
        System.arraycopy(new int[] {2, 6, 4, 0, 0, 2, 12, 0, 160}, 0, long400, 0, 9);
        java.util.Arrays.fill(long400, 9, long400.length, 64);
        int[] all = new int[long400.length + 1];
        System.arraycopy(long400, 0, all, 0, 9);
        all[9] = 6;
        System.arraycopy(long400, 9, all, 10, 400);
        d.due("39 just 400 bytes", new Desk(check).takeIn(Desk.checked(all)), 3);
        d.office.write();
        d.due("39 as they were", Desk.numbers(d.said()).startsWith("2 6 4 0 0 2 12 0 4 64 20 ") ? 1 : 0, 1);
    }

    private static void refusedText(String what, int[] ahead, int... bytes) {
        int[] all = new int[ahead.length + bytes.length];
        System.arraycopy(ahead, 0, all, 0, ahead.length);
        System.arraycopy(bytes, 0, all, ahead.length, bytes.length);
        refused(what, ahead.length, all);
    }

    private static void takenInBatches() {
        refused("an end without a batch", 1, 2, 42);
        refused("an undo without a batch", 1, 2, 44);
        refused("a batch in a batch", 1, 40, 40, 42, 42);
        refused("a person in a batch", 1, 40, 2, 42);
        int[] held = new int[1 + 61 * 3 + 1];
        held[0] = 40;
        for (int i = 0; i < 61; i++) {
            held[1 + 3 * i] = 28;
        }
        held[held.length - 1] = 42;
        refused("61 facts", 1 + 60 * 3, held);
        refused("a fact that is refused", 1, 2, 28, 0, 0);
        Desk d = new Desk(check);
        d.due("39 an end by which all is undone", d.takeIn(Desk.checked(40, 28, 0, 0, 42)), 3);
        d.due("39 tries", d.office.count(6), 1);
        d.due("39 a batch that is under way", d.takeIn(Desk.checked(40, 28, 0, 0)), 2);
        d.due("39 held now", d.office.count(7), 1);
        d.due("39 it is under way", d.office.write(), STATE);
        d.due("39 its end", d.office.end(), -20);
    }

    private static void refusedTakings() {
        // FINDINGS met by acts ahead of the wrong one are counted
        Desk d = new Desk(check);
        int[] acts = {2, 6, 4, 0, 0, 2, 16, 0, 0, 22, 0, 1, 0, 0, 40, 26, 0, 0, 2, 42, 40, 26, 0, 0, 2, 42, 0};
        d.due("39 refused", d.takeIn(Desk.checked(acts)), -10 - 26);
        d.due("41 findings", d.office.count(10), 2);
        d.due("39 refused by pay", d.takeIn(Desk.checked(2, 6, 4, 0, 0, 2, 16, 0, 0, 22, 0, 1, 0, 0, 26, 0, 0, 2)),
                -10 - 14);
        d.due("41 findings", d.office.count(10), 3);
        d.due("39 nothing changes", d.office.count(4), 0);
    }

    private static void whatStays() {
        Desk d = Desk.with(check, 2, 0);
        d.claim(0, 5, 70, 70);
        d.owed(0, 5);
        d.office.say();
        d.takeIn(Desk.checked(2));
        d.due("39 what was said stays", d.said(), "worth 70\n");
        d.due("39 what was looked at stays", d.office.cents(0), 70);
        d.due("39 a new office", d.office.count(3), 0);
    }

    private static void manyTakings() {
        Desk d = new Desk(check);
        d.office.batch();
        d.due("39 in a batch", d.office.takeIn(), STATE);
        d.office.undo();
        for (int i = 0; i < 40; i++) {
            d.due("39 taken in", i % 2 == 0 ? d.takeIn(Desk.checked(2)) : d.takeIn(""), i % 2 == 0 ? 1 : -10);
        }
        d.due("39 the 41st", d.takeIn(Desk.checked(2)), FULL);
        d.due("39 the tape stays", d.office.count(8), 5);
    }

    // ---- 40, 41

    private static void ofACase() {
        Desk d = Desk.with(check, 2, 0);
        Office o = d.office;
        o.policy(6, 0, 0, 5);
        o.loss(0, 5);
        o.loss(0, 6);
        o.notify(0, -1, 1, 7);
        o.notify(1, 3, 0, 8);
        o.reserve(1, 9, 0, 5);
        o.close(1, 9);
        int[][] due = {{0, -1, 1, 7, 1, 0, 9}, {1, 3, 0, 8, 0, 2, 10}};
        for (int c = 0; c < 2; c++) {
            for (int what = 0; what <= 6; what++) {
                d.due("40 of(" + c + ", " + what + ")", o.of(c, what), due[c][what]);
            }
        }
        d.due("40 what", o.of(0, 7), BAD);
        d.due("40 what", o.of(0, -1), BAD);
        d.due("40 case", o.of(2, 0), BAD);
        d.due("40 case", o.of(-1, 0), BAD);
    }

    private static void counts() {
        Desk d = Desk.with(check, 2, 0);
        Office o = d.office;
        d.claim(0, 5, 70, 70);
        d.claim(0, 3000, 70, 70);
        o.pay(1, 3000, 5);
        o.part(0, 5);
        o.batch();
        o.undo();
        o.batch();
        o.close(0, 3000);
        o.type(0, 7);
        o.tell(0, 0);
        int[] due = {1, 1, 3, 2, 12, 2, 1, 1, 7, 0, 1};
        for (int what = 0; what <= 10; what++) {
            d.due("41 count(" + what + ")", o.count(what), due[what]);
        }
        d.due("41 what", o.count(11), BAD);
        d.due("41 what", o.count(-1), BAD);
        d.due("15 a finding, now that it is behind", o.end(), 1);
        d.due("15 of a case outside", o.pay(1, 3000, 5), MUCH);
    }
}
