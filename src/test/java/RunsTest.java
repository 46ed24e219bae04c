/** Part 6 of the document with promises 33 to 37: USED, LEFT, RESERVED, RUNS and FACTORS at their edges. */
public final class RunsTest {
    private static final int NONE = -1;
    private static final int LOWEST = Integer.MIN_VALUE, HIGHEST = Integer.MAX_VALUE;
    private static final long NO_ANSWER = ClaimsOffice.NO_ANSWER;
    private static final long MOST = 1000000000000L;
    private static final int FIRE = 0, THIRD = 4;
    private static final int CAR = 2, LIABILITY = 3, BUNDLE = 6;
    private static final Check check = new Check();

    public static void main(String[] args) {
        usedOfWhat();
        usedOfCovers();
        leftOfWhat();
        reservedOfWhat();
        reservedOfOpenCases();
        runsOfWhat();
        runsByYears();
        lastRow();
        factorsOfWhat();
        factorRows();
        leastTerms();
        nought();
        greatSums();
        check.done();
    }

    /** A CAR for all days with a SUM in all YEARS. */
    private static Desk wide(String clauses) {
        Desk d = new Desk(check);
        d.office.person();
        d.office.policy(CAR, 0, 0, 10949);
        for (int year = 0; year < 30; year++) {
            d.office.period(0, year, MOST);
        }
        d.clauses(0, clauses);
        return d;
    }

    private static void usedOfWhat() {
        check.sentence("USED of a COVER in a YEAR, as KNOWN at a moment. NO_ANSWER (a BUNDLE, too).");
        Desk d = wide("year 999;");
        Office o = d.office;
        o.policy(BUNDLE, 0, 0, 10);
        o.bundle(1, 0, 0);
        d.claim(FIRE, 5, 100, 100);
        int now = o.count(4);
        o.pay(0, 5, 60);
        int[][] bad = {{-1, 0, now}, {2, 0, now}, {1, 0, now}, {LOWEST, 0, now}, {HIGHEST, 0, now}, {0, -1, now}, {0, 30, now},
            {0, LOWEST, now}, {0, HIGHEST, now}, {0, 0, now + 2}, {0, 0, -1}, {0, 0, LOWEST}, {0, 0, HIGHEST}};
        for (int[] b : bad) {
            d.due("used(" + b[0] + ", " + b[1] + ", " + b[2] + ")", o.used(b[0], b[1], b[2]), NO_ANSWER);
            d.due("left(" + b[0] + ", " + b[1] + ", " + b[2] + ")", o.left(b[0], b[1], b[2]), NO_ANSWER);
        }
        d.due("at moment 0", o.used(0, 0, 0), 0);
        d.due("ahead of it", o.used(0, 0, now), 0);
        d.due("now", o.used(0, 0, now + 1), 60);
        d.due("the last YEAR", o.used(0, 29, now + 1), 0);
    }

    private static void usedOfCovers() {
        check.sentence("USED of a COVER in a YEAR: what was PAID of s in all its cases of that YEAR (of the LOSS),"
                + " less RECOURSE; LEFT: year less that.");
        Desk d = wide("year 1000; interest 3650;");
        Office o = d.office;
        o.policy(BUNDLE, 0, 0, 10);
        o.policy(CAR, 0, 0, 10949);
        o.bundle(1, 2, 0);
        d.claim(FIRE, 364, 500, 500);
        o.notify(1, 2, 0, 364);
        d.claim(FIRE, 365, 500, 500);
        // 500 a day at 3650: a cent for two days; of 301 one is INTEREST
        o.pay(0, 366, 301);
        o.pay(1, 366, 51);
        o.pay(2, 367, 21);
        int now = o.count(4);
        d.due("of the YEAR 0", o.used(0, 0, now), 350);
        d.due("of the YEAR 1", o.used(0, 1, now), 20);
        d.due("left of the YEAR 0", o.left(0, 0, now), 650);
        o.recourse(0, 366, 300);
        d.due("less RECOURSE", o.used(0, 0, now + 1), 50);
        d.due("left then", o.left(0, 0, now + 1), 950);
        o.recourse(1, 366, 50);
        d.due("all of it", o.used(0, 0, now + 2), 0);
        // what was PAID goes with the COVER
        o.bundle(1, 2, 2);
        d.due("without the PLACE", o.used(0, 0, now + 3), 0);
        d.due("of the other COVER", o.used(2, 0, now + 3), 0);
        d.due("as KNOWN when it was PAID", o.used(0, 0, now), 350);
        d.due("of the other COVER, by the facts KNOWN then", o.used(2, 0, now), 0);
        d.due("facts of any day count", o.used(0, 1, now + 3), 20);
    }

    private static void leftOfWhat() {
        check.sentence("LEFT likewise; NO_ANSWER: also without year.");
        Desk d = wide("own year 7; loss 8;");
        Office o = d.office;
        d.claim(FIRE, 5, 100, 100);
        int now = o.count(4);
        d.due("without year", o.left(0, 0, now), NO_ANSWER);
        d.clauses(0, "year 0;");
        d.due("year 0", o.left(0, 0, now + 1), 0);
        d.clauses(0, "year 999999999; year 50;");
        d.due("the last one", o.left(0, 0, now + 2), 50);
        o.pay(0, 5, 50);
        d.due("nothing is left", o.left(0, 0, now + 3), 0);
        d.due("of another YEAR", o.left(0, 29, now + 3), 50);
        d.clauses(0, "year 49;");
        d.due("less than nothing", o.left(0, 0, now + 4), -1);
        d.clauses(0, "");
        d.due("without year again", o.left(0, 0, now + 5), NO_ANSWER);
        d.due("as KNOWN before", o.left(0, 0, now + 4), -1);
        d.due("as KNOWN at first", o.left(0, 0, 0), NO_ANSWER);
        d.due("no findings", o.count(10), 0);
    }

    private static void reservedOfWhat() {
        check.sentence("What is RESERVED last of a kind, of all cases with a LOSS in a YEAR that are OPEN,"
                + " as KNOWN at a moment (FACTS of any day). NO_ANSWER.");
        Desk d = wide("");
        Office o = d.office;
        d.claim(FIRE, 364, 100, 100);
        d.claim(FIRE, 365, 100, 100);
        d.claim(FIRE, 10949, 100, 100);
        int now = o.count(4);
        o.reserve(0, 10949, 0, 7);
        o.reserve(1, 10949, 2, 8);
        o.reserve(2, 10949, 1, MOST);
        int[][] bad = {{-1, 0, now}, {3, 0, now}, {LOWEST, 0, now}, {HIGHEST, 0, now}, {0, -1, now}, {0, 30, now},
            {0, LOWEST, now}, {0, HIGHEST, now}, {0, 0, -1}, {0, 0, now + 4}, {0, 0, LOWEST}, {0, 0, HIGHEST}};
        for (int[] b : bad) {
            d.due("reserved(" + b[0] + ", " + b[1] + ", " + b[2] + ")", o.reserved(b[0], b[1], b[2]), NO_ANSWER);
        }
        d.due("ahead of it", o.reserved(0, 0, now), 0);
        d.due("at its moment, of a later day", o.reserved(0, 0, now + 1), 7);
        d.due("of kind 2", o.reserved(2, 1, now + 3), 8);
        d.due("of the last YEAR", o.reserved(1, 29, now + 3), MOST);
        d.due("of another kind", o.reserved(1, 0, now + 3), 0);
        d.due("of another YEAR", o.reserved(0, 1, now + 3), 0);
        d.due("at moment 0", o.reserved(0, 0, 0), 0);
    }

    private static void reservedOfOpenCases() {
        check.sentence("What is RESERVED last of a kind, of all cases with a LOSS in a YEAR that are OPEN,"
                + " as KNOWN at a moment (FACTS of any day). NO_ANSWER.");
        Desk d = wide("");
        Office o = d.office;
        d.claim(FIRE, 5, 100, 100);
        o.notify(0, NONE, 0, 10);
        o.reserve(0, 10, 0, 100);
        o.reserve(0, 10, 0, 30);
        o.reserve(1, 10, 0, 5);
        int now = o.count(4);
        d.due("the last of each", o.reserved(0, 0, now), 35);
        d.due("the first of it", o.reserved(0, 0, now - 2), 100);
        o.close(0, 5000);
        d.due("one is not OPEN", o.reserved(0, 0, now + 1), 5);
        o.reopen(0, 6000, 2);
        d.due("OPEN again", o.reserved(0, 0, now + 2), 35);
        o.reserve(0, 6000, 0, 0);
        d.due("nothing is RESERVED last", o.reserved(0, 0, now + 3), 5);
        o.close(0, 6000);
        o.close(1, 6000);
        d.due("none is OPEN", o.reserved(0, 0, now + 5), 0);
        d.due("as KNOWN between", o.reserved(0, 0, now + 1), 5);
    }

    private static void runsOfWhat() {
        check.sentence("RUNS: row i, column j (0 .. 29), as KNOWN at a moment. NO_ANSWER.");
        Desk d = wide("");
        Office o = d.office;
        d.claim(FIRE, 0, 100, 100);
        int now = o.count(4);
        o.pay(0, 364, 7);
        int[] wrong = {LOWEST, -1, 30, HIGHEST};
        for (int w : wrong) {
            d.due("row " + w, o.run(0, w, 0, now), NO_ANSWER);
            d.due("column " + w, o.run(0, 0, w, now), NO_ANSWER);
        }
        for (int by : new int[] {LOWEST, -1, 2, HIGHEST}) {
            d.due("by " + by, o.run(by, 0, 0, now), NO_ANSWER);
        }
        for (int moment : new int[] {LOWEST, -1, now + 2, HIGHEST}) {
            d.due("moment " + moment, o.run(0, 0, 0, moment), NO_ANSWER);
        }
        d.due("at moment 0", o.run(0, 0, 0, 0), 0);
        d.due("ahead of it", o.run(0, 0, 0, now), 0);
        d.due("at it", o.run(0, 0, 0, now + 1), 7);
        d.due("the last row and column", o.run(1, 29, 29, now + 1), 0);
    }

    private static void runsByYears() {
        check.sentence("RUNS: what was PAID (INTEREST too) by the YEAR of the LOSS (by 0) or of the NOTICE (1), row i,"
                + " and how many YEARS behind that it was PAID, column j.");
        Desk d = wide("interest 3650;");
        Office o = d.office;
        o.item(o.loss(FIRE, 364), 0, 1000, 1000);
        o.notify(0, NONE, 0, 365);
        // a cent of INTEREST a day, more of it than these
        int[] days = {365, 366, 729, 730, 1094, 1095, 10949};
        for (int i = 0; i < days.length; i++) {
            d.due("pay", o.pay(0, days[i], i == 0 ? 100 : 1 << i), 1);
        }
        int now = o.count(4);
        long[] byLoss = {0, 100 + 2 + 4, 8 + 16, 32};
        long[] byNotice = {106, 24, 32, 0};
        for (int j = 0; j < 4; j++) {
            d.due("by LOSS, column " + j, o.run(0, 0, j, now), byLoss[j]);
            d.due("by NOTICE, column " + j, o.run(1, 1, j, now), byNotice[j]);
            d.due("by LOSS, row 1", o.run(0, 1, j, now), 0);
            d.due("by NOTICE, row 0", o.run(1, 0, j, now), 0);
        }
        d.due("by LOSS, the last column", o.run(0, 0, 29, now), 64);
        d.due("by NOTICE, the last but one", o.run(1, 1, 28, now), 64);
        d.due("by NOTICE, the last column", o.run(1, 1, 29, now), 0);
        d.due("as KNOWN before", o.run(0, 0, 29, now - 1), 0);
        // RECOURSE, SALVAGE change nothing
        o.salvage(0, 10949, 5);
        o.recourse(0, 10949, 50);
        d.due("as it was", o.run(0, 0, 1, now + 2), 106);
    }

    private static void lastRow() {
        check.sentence("RUNS: what was PAID (INTEREST too) by the YEAR of the LOSS (by 0) or of the NOTICE (1), row i,"
                + " and how many YEARS behind that it was PAID, column j.");
        Desk d = wide("");
        Office o = d.office;
        o.item(o.loss(FIRE, 10584), 0, 1000, 1000);
        o.notify(0, NONE, 0, 10585);
        o.pay(0, 10949, 77);
        int now = o.count(4);
        d.due("by LOSS: YEAR 28", o.run(0, 28, 1, now), 77);
        d.due("by NOTICE: YEAR 29", o.run(1, 29, 0, now), 77);
        for (int j = 0; j < 30; j++) {
            d.due("by LOSS, column " + j, o.run(0, 28, j, now), j == 1 ? 77 : 0);
            d.due("by NOTICE, column " + j, o.run(1, 29, j, now), j == 0 ? 77 : 0);
        }
    }

    private static void factorsOfWhat() {
        check.sentence("FACTOR j (0 .. 29) as seen in YEAR y (0 .. 29; without rows: NOUGHT), above (part = 0) or below (1)."
                + " NO_ANSWER: BAD, or NOUGHT.");
        Desk d = wide("");
        Office o = d.office;
        d.claim(FIRE, 0, 100, 100);
        int now = o.count(4);
        o.pay(0, 0, 6);
        o.pay(0, 365, 4);
        int[] wrong = {LOWEST, -1, 30, HIGHEST};
        for (int w : wrong) {
            d.due("j " + w, o.factor(0, w, 5, 0, now + 2), NO_ANSWER);
            d.due("y " + w, o.factor(0, 0, w, 0, now + 2), NO_ANSWER);
        }
        for (int w : new int[] {LOWEST, -1, 2, HIGHEST}) {
            d.due("by " + w, o.factor(w, 0, 5, 0, now + 2), NO_ANSWER);
            d.due("part " + w, o.factor(0, 0, 5, w, now + 2), NO_ANSWER);
        }
        for (int moment : new int[] {LOWEST, -1, now + 3, HIGHEST}) {
            d.due("moment " + moment, o.factor(0, 0, 5, 0, moment), NO_ANSWER);
        }
        d.due("above", o.factor(0, 0, 1, 0, now + 2), 5);
        d.due("below", o.factor(0, 0, 1, 1, now + 2), 3);
        d.due("above, by NOTICE", o.factor(1, 0, 1, 0, now + 2), 5);
        d.due("as KNOWN before", o.factor(0, 0, 1, 0, now + 1), 1);
        d.due("as KNOWN ahead of all", o.factor(0, 0, 1, 0, now), NO_ANSWER);
        d.due("at moment 0", o.factor(0, 0, 1, 0, 0), NO_ANSWER);
        d.due("y 0 is without rows", o.factor(0, 0, 0, 0, now + 2), NO_ANSWER);
        d.due("j 29 is without rows", o.factor(0, 29, 29, 0, now + 2), NO_ANSWER);
        d.due("j 28 in YEAR 29 has row 0", o.factor(0, 28, 29, 0, now + 2), 1);
        d.due("j 28 in YEAR 28 has none", o.factor(0, 28, 28, 0, now + 2), NO_ANSWER);
        d.due("j 5 in YEAR 5 has none", o.factor(0, 5, 5, 1, now + 2), NO_ANSWER);
        d.due("j 5 in YEAR 6 has one", o.factor(0, 5, 6, 1, now + 2), 1);
        d.due("no findings", o.count(10), 0);
    }

    private static void factorRows() {
        check.sentence("FACTOR j as seen in a YEAR y: over rows 0 .. y - j - 1 the sum of columns 0 .. j + 1,"
                + " by that of 0 .. j, in least terms (NOUGHT: the latter is 0).");
        // rows 0 .. 3, columns 0 .. 3: primes of their own, so that no sum is another one
        Desk d = wide("");
        Office o = d.office;
        long[][] paid = {{1009, 2003, 3001, 4001}, {5003, 6007, 7001, 8009}, {9001, 10007, 11003, 12007},
            {13001, 14009, 15013, 16001}};
        for (int row = 0; row < 4; row++) {
            d.claim(FIRE, row * 365, MOST, MOST);
        }
        for (int row = 0; row < 4; row++) {
            for (int column = 0; column < 4; column++) {
                // on the last day of a YEAR, or on the first one
                int day = (row + column) * 365 + (column % 2 == 0 ? 364 : 0);
                d.due("pay", o.pay(row, day, paid[row][column]), 1);
            }
        }
        int now = o.count(4);
        for (int j = 0; j < 3; j++) {
            for (int y = j + 1; y < 8; y++) {
                long above = 0;
                long below = 0;
                for (int row = 0; row <= y - j - 1 && row < 4; row++) {
                    for (int column = 0; column <= j + 1; column++) {
                        above += paid[row][column];
                        below += column <= j ? paid[row][column] : 0;
                    }
                }
                long divisor = java.math.BigInteger.valueOf(above).gcd(java.math.BigInteger.valueOf(below)).longValue();
                d.due("above, j " + j + ", y " + y, o.factor(0, j, y, 0, now), above / divisor);
                d.due("below, j " + j + ", y " + y, o.factor(0, j, y, 1, now), below / divisor);
            }
        }
    }

    private static void leastTerms() {
        check.sentence("FACTOR j as seen in a YEAR y: over rows 0 .. y - j - 1 the sum of columns 0 .. j + 1,"
                + " by that of 0 .. j, in least terms (NOUGHT: the latter is 0).");
        long[][] firstSecond = {{1, 1}, {6, 3}, {7, 7}, {7, 14}, {1, 999}, {999, 1}, {1000000007, 2 * 1000000007L},
            {MOST, MOST}, {MOST - 1, MOST}, {5, 0}};
        long[][] due = {{2, 1}, {3, 2}, {2, 1}, {3, 1}, {1000, 1}, {1000, 999}, {3, 1}, {2, 1}, {2 * MOST - 1, MOST - 1},
            {1, 1}};
        for (int i = 0; i < due.length; i++) {
            Desk d = wide("");
            d.office.loss(FIRE, 0);
            d.office.item(0, 0, MOST, MOST);
            d.office.item(0, 0, MOST, MOST);
            d.office.notify(0, NONE, 0, 0);
            d.office.pay(0, 364, firstSecond[i][0]);
            d.office.pay(0, 365, firstSecond[i][1]);
            int now = d.office.count(4);
            d.due("above of " + firstSecond[i][0] + ", " + firstSecond[i][1], d.office.factor(0, 0, 1, 0, now), due[i][0]);
            d.due("below of " + firstSecond[i][0] + ", " + firstSecond[i][1], d.office.factor(0, 0, 1, 1, now), due[i][1]);
        }
    }

    private static void nought() {
        check.sentence("FACTOR j as seen in a YEAR y: over rows 0 .. y - j - 1 the sum of columns 0 .. j + 1,"
                + " by that of 0 .. j, in least terms (NOUGHT: the latter is 0).");
        // all is PAID in the YEAR behind that of the LOSS
        Desk d = wide("");
        Office o = d.office;
        d.claim(FIRE, 0, 100, 100);
        o.pay(0, 365, 7);
        int now = o.count(4);
        d.due("7 by 0", o.factor(0, 0, 1, 0, now), NO_ANSWER);
        d.due("7 by 0, below", o.factor(0, 0, 1, 1, now), NO_ANSWER);
        d.due("7 by 7", o.factor(0, 1, 2, 0, now), 1);
        d.due("7 by 7, below", o.factor(0, 1, 2, 1, now), 1);
        // LIABILITY of a THIRD, nothing PAID at all
        d = Desk.with(check, LIABILITY, 0);
        d.claim(THIRD, 0, 100, 100);
        for (int j = 0; j < 30; j++) {
            d.due("nothing, j " + j, d.office.factor(1, j, 29, 0, d.office.count(4)), NO_ANSWER);
        }
    }

    /** As much as may be PAID by twelve cases of six ITEMS: sums, not products, so they stay far below 2^62. */
    private static void greatSums() {
        check.sentence("RUNS: row i, column j (0 .. 29), as KNOWN at a moment. NO_ANSWER.");
        Desk d = wide("");
        Office o = d.office;
        o.loss(FIRE, 0);
        for (int i = 0; i < 6; i++) {
            o.item(0, 0, MOST, MOST);
        }
        for (int c = 0; c < 12; c++) {
            o.notify(0, NONE, 0, 0);
            for (int i = 0; i < 6; i++) {
                o.pay(c, 0, MOST);
            }
        }
        int now = o.count(4);
        d.due("run", o.run(0, 0, 0, now), 72 * MOST);
        d.due("used", o.used(0, 0, now), 72 * MOST);
        d.due("factor", o.factor(0, 0, 1, 0, now), 1);
        for (int c = 0; c < 12; c++) {
            o.reserve(c, 0, 0, MOST);
        }
        d.due("reserved", o.reserved(0, 0, now + 12), 12 * MOST);
    }
}
