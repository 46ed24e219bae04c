/** Part 2 of the document: what each body says of each LOSS, at the edges of what it asks for. */
public final class BodiesTest {
    private static final int NONE = -1;
    private static final int FIRE = 0, WATER = 1, THEFT = 2, STORM = 3, THIRD = 4;
    /** Two more sorts of a LOSS: a STORM with an ITEM of SORT 3, a THIRD without an ITEM. */
    private static final int WET_STORM = 5, EMPTY_THIRD = 6, LOSSES = 7;
    private static final int DWELLING = 0, CONTENTS = 1, CAR = 2, LIABILITY = 3, CROP = 4, TRANSPORT = 5;
    private static final int FIRST = 100;
    private static final long MOST = 1000000000000L;
    private static final Check check = new Check();

    public static void main(String[] args) {
        covers();
        liability();
        waits();
        averages();
        self();
        worth();
        worthOfTheft();
        worthOfParts();
        is();
        isOfParts();
        traces();
        tracesOfParents();
        bundles();
        check.done();
    }

    /** A POLICY 0 of that kind for days 100 .. 300 with that SUM. */
    private static Desk policy(int kind, long sum) {
        Desk d = new Desk(check);
        d.office.person();
        d.office.policy(kind, 0, FIRST, 300);
        d.office.period(0, 0, sum);
        return d;
    }

    /** A LOSS of that sort with an ITEM of 100 of 100, or a PART of all of it: its number. */
    private static int loss(Desk d, int sort, int day, boolean part) {
        int loss = d.office.loss(sort == WET_STORM ? STORM : sort == EMPTY_THIRD ? THIRD : sort, day);
        if (sort != EMPTY_THIRD) {
            d.office.item(loss, sort == WET_STORM ? 3 : 2, 100, 100);
        }
        return part ? d.office.part(loss, 100) : loss;
    }

    private static void covers() {
        check.sentence("0 COVERS a LOSS: 1: no. 2: if it IS FIRE, else 1's. 3: if it IS WATER, or IS STORM, else 2's."
                + " 4: if it IS THEFT, else 3's. 5: if it IS STORM."
                + " 6: if it IS FIRE, IS THEFT, or IS THIRD, else 1's."
                + " 7: no, if it IS THIRD; yes, if it IS WATER; else 6's.");
        // by DWELLING, CONTENTS, CAR, CROP, TRANSPORT: FIRE, WATER, THEFT, STORM, THIRD, wet STORM, empty THIRD
        int[] kinds = {DWELLING, CONTENTS, CAR, CROP, TRANSPORT};
        String[] covered = {"yynynyn", "yyyynyn", "ynynyny", "nnnynyn", "yyynnyn"};
        for (int k = 0; k < kinds.length; k++) {
            for (int sort = 0; sort < LOSSES; sort++) {
                for (boolean part : new boolean[] {false, true}) {
                    Desk d = policy(kinds[k], MOST / 1000);
                    d.owed(d.office.notify(0, NONE, loss(d, sort, 200, part), 200), 200);
                    boolean out = covered[k].charAt(sort) == 'n';
                    String what = "kind " + kinds[k] + " of loss " + sort + (part ? ", a part" : "");
                    d.due("row 1 of " + what, d.office.row(1, 0), out ? 1 : kinds[k] == TRANSPORT ? 4 : lastOf(kinds[k], sort));
                    d.due("argument of " + what, d.office.row(1, 1) == NONE || !out ? 1 : 0, 1);
                    d.due("finding of " + what, d.office.finding(), 0);
                }
            }
        }
    }

    /** The code of the row behind row 0, of a LOSS that is covered: SELF of a THEFT of a CAR, else none. */
    private static int lastOf(int kind, int sort) {
        return kind == CAR && sort == THEFT ? 4 : NONE;
    }

    private static void liability() {
        check.sentence("8: it is taken as a THIRD (NOT THAT KIND, if it is none; a PART is none): if it has an ITEM.");
        for (int sort = 0; sort < LOSSES; sort++) {
            for (boolean part : new boolean[] {false, true}) {
                Desk d = policy(LIABILITY, 5);
                int c = d.office.notify(0, NONE, loss(d, sort, 200, part), 200);
                boolean third = !part && (sort == THIRD || sort == EMPTY_THIRD);
                d.dueRows(c, 200, !third ? "none f2 | 0 0 " + (sort == EMPTY_THIRD ? 0 : 100)
                        : sort == THIRD ? "100 f0 | 0 0 100" : "0 f0 | 0 0 0 | 1 -1 0");
                d.due("findings", d.office.count(10), third ? 0 : 1);
            }
        }
        // an ITEM of nothing is one
        Desk d = policy(LIABILITY, 5);
        d.office.item(d.office.loss(THIRD, 200), 0, 0, 0);
        d.dueRows(d.office.notify(0, NONE, 0, 200), 200, "0 f0 | 0 0 0");
        // a clause does not save what is not that kind, but what has no ITEM
        d.clauses(0, "in any;");
        d.dueRows(d.office.notify(0, NONE, d.office.loss(FIRE, 200), 200), 200, "none f2 | 0 0 0");
        d.dueRows(d.office.notify(0, NONE, d.office.loss(THIRD, 200), 200), 200, "0 f0 | 0 0 0");
    }

    private static void waits() {
        check.sentence("1 WAITS (days): 0: 0. 4: 3, if it IS THEFT, else 0. 5: 14. 7: 2, if it IS WATER, else 0.");
        for (int kind = DWELLING; kind <= TRANSPORT; kind++) {
            for (int sort = 0; sort < LOSSES; sort++) {
                boolean third = sort == THIRD || sort == EMPTY_THIRD;
                if (kind == LIABILITY && !third) {
                    continue;
                }
                int days = kind == CROP ? 14 : kind == CONTENTS && sort == THEFT ? 3
                        : kind == TRANSPORT && (sort == WATER || sort == WET_STORM) ? 2 : 0;
                Desk d = policy(kind, MOST / 1000);
                d.clauses(0, "in any;");
                int early = d.office.notify(0, NONE, loss(d, sort, FIRST + days - 1, kind == CROP), 200);
                int late = d.office.notify(0, NONE, loss(d, sort, FIRST + days, kind == CROP), 200);
                long worth = sort == EMPTY_THIRD ? 0 : 100;
                d.dueRows(early, 200, "0 f0 | 0 0 " + worth + (days == 0 ? " | 1 -2 " : " | 2 " + days + " ") + -worth);
                d.owed(late, 200);
                d.due("no wait of kind " + kind + ", loss " + sort, d.office.row(1, 0) == 2 ? 1 : 0, 0);
                d.due("nor is it out", d.office.row(1, 0) == 1 ? 1 : 0, 0);
            }
        }
    }

    private static void averages() {
        check.sentence("2 AVERAGES: 0: no. 2: yes. 4: no, if it IS THEFT, else 2's. 5: no.");
        for (int kind = DWELLING; kind <= TRANSPORT; kind++) {
            for (int sort = 0; sort < LOSSES - 1; sort++) {
                if (kind == LIABILITY && sort != THIRD) {
                    continue;
                }
                boolean averages = kind == DWELLING || kind == CONTENTS && sort != THEFT;
                Desk d = policy(kind, 50);
                d.clauses(0, "in any;");
                d.owed(d.office.notify(0, NONE, loss(d, sort, 200, false), 200), 200);
                d.due("row 3 of kind " + kind + ", loss " + sort, d.office.row(1, 0) == 3 ? 1 : 0, averages ? 1 : 0);
                d.due("what stays", d.office.row(1, 0) == 3 ? d.office.cents(1) : -50, -50);
            }
        }
    }

    private static void self() {
        check.sentence("3 SELF (of a hundred): 1: 0. 6: 10, if it IS THEFT, else 1's. 7: 5 more than 6's.");
        for (int kind = DWELLING; kind <= TRANSPORT; kind++) {
            for (int sort = 0; sort < LOSSES - 1; sort++) {
                if (kind == LIABILITY && sort != THIRD) {
                    continue;
                }
                int self = (kind == TRANSPORT ? 5 : 0) + ((kind == CAR || kind == TRANSPORT) && sort == THEFT ? 10 : 0);
                Desk d = policy(kind, 1000);
                d.clauses(0, "in any;");
                d.dueRows(d.office.notify(0, NONE, loss(d, sort, 200, false), 200), 200, 100 - self + " f0 | 0 0 100"
                        + (self == 0 ? "" : " | 4 " + self + " " + -self));
            }
        }
    }

    /** WORTH of a LOSS with these ITEMS, n by a clause (none: -1). */
    private static void worthOf(int kind, int n, long want, long... amountsAndValues) {
        Desk d = policy(CAR, MOST);
        d.clauses(0, n < 0 ? "" : "item " + n + ";");
        int loss = d.office.loss(kind, 200);
        for (int i = 0; i < amountsAndValues.length; i += 2) {
            d.office.item(loss, 0, amountsAndValues[i], amountsAndValues[i + 1]);
        }
        d.owed(d.office.notify(0, NONE, loss, 200), 200);
        d.due("worth of loss " + kind + " with item " + n, d.office.cents(0), want);
        d.due("row 0", d.office.row(0, 0), 0);
    }

    private static void worth() {
        check.sentence("4 WORTH, n being the most for an ITEM: 9: the sum of the lesser of AMOUNT and n."
                + " 10: of AMOUNT, VALUE and n the least.");
        for (int kind : new int[] {FIRE, WATER, STORM}) {
            worthOf(kind, -1, 0);
            worthOf(kind, -1, 70, 70, 71);
            worthOf(kind, -1, 70, 71, 70);
            worthOf(kind, -1, 0, 71, 0);
            worthOf(kind, 69, 69, 71, 70);
            worthOf(kind, 70, 70, 71, 70);
            worthOf(kind, 71, 70, 72, 70);
            worthOf(kind, 71, 70, 70, 72);
            worthOf(kind, 0, 0, 70, 72);
            worthOf(kind, 50, 50 + 49 + 48, 51, 51, 49, 90, 90, 48);
            worthOf(kind, -1, 6 * MOST, MOST, MOST, MOST, MOST, MOST, MOST, MOST, MOST, MOST, MOST, MOST, MOST);
        }
        worthOf(THIRD, -1, 0);
        worthOf(THIRD, -1, 71, 71, 0);
        worthOf(THIRD, 70, 70, 71, 0);
        worthOf(THIRD, 71, 71, 71, 0);
        worthOf(THIRD, 72, 71, 71, 0);
        worthOf(THIRD, 50, 50 + 49 + 50, 51, 5, 49, 6, 50, 7);
        worthOf(THIRD, -1, 6 * MOST, MOST, 0, MOST, 0, MOST, 0, MOST, 0, MOST, 0, MOST, 0);
    }

    private static void worthOfTheft() {
        check.sentence("11: 10's, less what is beyond whole hundreds.");
        worthOf(THEFT, -1, 0);
        worthOf(THEFT, -1, 0, 99, 99);
        worthOf(THEFT, -1, 100, 100, 100);
        worthOf(THEFT, -1, 100, 101, 101);
        worthOf(THEFT, -1, 100, 199, 500);
        worthOf(THEFT, -1, 200, 500, 200);
        // the sum is cut, not each ITEM
        worthOf(THEFT, -1, 100, 50, 50, 50, 50);
        worthOf(THEFT, 49, 0, 50, 50, 50, 50);
    }

    private static void worthOfParts() {
        check.sentence("14: its WHOLE's WORTH times HUNDREDTHS, by 100.");
        int[][] worthHundredthsDue = {{199, 1, 1}, {99, 1, 0}, {100, 1, 1}, {199, 99, 197}, {199, 100, 199}, {0, 50, 0}};
        for (int[] w : worthHundredthsDue) {
            Desk d = policy(CAR, MOST);
            d.office.item(d.office.loss(FIRE, 200), 0, w[0], 500);
            d.dueRows(d.office.notify(0, NONE, d.office.part(0, w[1]), 200), 200, w[2] + " f0 | 0 0 " + w[2]);
        }
        // cut at each PART, and a THEFT is cut to hundreds as the WHOLE: 300, 99, 49, 24, 12
        Desk d = policy(CAR, MOST);
        d.office.item(d.office.loss(THEFT, 200), 0, 399, 500);
        d.office.part(0, 33);
        int[] due = {300, 99, 49, 24, 12};
        for (int i = 0; i < 5; i++) {
            d.owed(d.office.notify(0, NONE, i, 200), 200);
            d.due("worth of part " + i, d.office.cents(0), due[i]);
            d.office.part(i + 1, 50);
        }
        // n is the most for an ITEM of the WHOLE
        d = policy(CAR, MOST);
        d.clauses(0, "item 200;");
        d.office.item(d.office.loss(FIRE, 200), 0, 399, 500);
        d.office.part(0, 50);
        d.dueRows(d.office.notify(0, NONE, 1, 200), 200, "100 f0 | 0 0 100");
    }

    /** Whether a LOSS is what a clause names. */
    private static void isDue(Desk d, int loss, String want) {
        String[] names = {"fire", "water", "theft", "storm", "third", "any"};
        int c = d.office.notify(0, NONE, loss, 200);
        for (int kind = 0; kind < names.length; kind++) {
            d.clauses(0, "in any; out any unless is " + names[kind] + ";");
            d.due("loss " + loss + " is " + names[kind], d.owed(c, 200) > 0 ? "y" : "n", want.substring(kind, kind + 1));
            d.clauses(0, "in any; out " + names[kind] + ";");
            d.due("out " + names[kind] + " of loss " + loss, d.owed(c, 200) > 0 ? "n" : "y", want.substring(kind, kind + 1));
        }
    }

    private static void is() {
        check.sentence("5 IS a KIND: 9: whether it is that. 12: yes of WATER, if it has an ITEM of SORT 3; else 9's."
                + " 14: whether its WHOLE IS.");
        String[] due = {"ynnnny", "nynnny", "nnynny", "nnnyny", "nnnnyy", "nynyny"};
        for (int sort = 0; sort < due.length; sort++) {
            Desk d = policy(CAR, 5);
            isDue(d, loss(d, sort, 200, false), due[sort]);
        }
        // SORT 3 makes nothing else WATER, and of a STORM no other SORT does
        for (int kind = FIRE; kind <= THIRD; kind++) {
            Desk d = policy(CAR, 5);
            d.office.item(d.office.loss(kind, 200), 3, 100, 100);
            isDue(d, 0, kind == STORM ? "nynyny" : due[kind]);
        }
        for (int sort = 0; sort <= 9; sort++) {
            Desk d = policy(CAR, 5);
            d.office.item(d.office.loss(STORM, 200), sort, 100, 100);
            isDue(d, 0, sort == 3 ? "nynyny" : "nnnyny");
        }
        // the last ITEM of six will do
        Desk d = policy(CAR, 5);
        d.office.loss(STORM, 200);
        for (int i = 0; i < 6; i++) {
            d.office.item(0, i == 5 ? 3 : 4, 100, 100);
        }
        isDue(d, 0, "nynyny");
    }

    private static void isOfParts() {
        check.sentence("5 IS a KIND: 9: whether it is that. 12: yes of WATER, if it has an ITEM of SORT 3; else 9's."
                + " 14: whether its WHOLE IS.");
        String[] due = {"ynnnny", "nynnny", "nnynny", "nnnyny", "nnnnyy", "nynyny"};
        for (int sort = 0; sort < due.length; sort++) {
            Desk d = policy(CAR, 5);
            int part = loss(d, sort, 200, true);
            for (int i = 0; i < 3; i++) {
                part = d.office.part(part, 100);
            }
            isDue(d, part, due[sort]);
        }
    }

    private static String traceOf(int kind, int sort, boolean part) {
        Desk d = policy(kind, 1000);
        d.owed(d.office.notify(0, NONE, loss(d, sort, 200, part), 200), 200);
        return d.trace();
    }

    private static void traces() {
        check.sentence("Each ACT is done by the body that the KIND has of its own, else by that of its parent;"
                + " a body may ask that of its parent. TRACE gets 10 times the owner and the act, as each begins.");
        check.due("dwelling, wet storm", traceOf(DWELLING, WET_STORM, false), "104 30 125 1 22 13");
        check.due("contents, theft", traceOf(CONTENTS, THEFT, false), "114 104 40 95 41 95 42 95 13");
        check.due("car, third", traceOf(CAR, THIRD, false), "94 60 95 95 95 1 2 63 95 13");
        check.due("liability, third", traceOf(LIABILITY, THIRD, false), "94 80 1 2 13");
        check.due("liability, a part", traceOf(LIABILITY, THIRD, true), "144 94 80");
        check.due("crop, storm", traceOf(CROP, STORM, false), "104 50 125 95 51 52 13");
        check.due("transport, wet storm", traceOf(TRANSPORT, WET_STORM, false),
                "104 70 125 95 125 71 125 2 73 63 125 95 13");
        check.sentence("(13 has 4 and 5 of 9. What asks for several, asks them in this order, as far as it must.)");
        check.due("transport, a part of a third", traceOf(TRANSPORT, THIRD, true), "144 94 70 145 95");
        check.due("transport, a part of a theft", traceOf(TRANSPORT, THEFT, true),
                "144 114 104 70 145 95 145 95 60 145 95 145 95 71 145 95 2 73 63 145 95");
        check.due("contents, a part of a wet storm", traceOf(CONTENTS, WET_STORM, true),
                "144 104 40 145 125 95 30 145 125 41 145 125 95 42 145 125 95 22 13");
    }

    private static void tracesOfParents() {
        check.sentence("Owners of POLICIES: 0 what all have otherwise, 1 COVER, 2 PROPERTY (of COVER), 3 DWELLING"
                + " (of PROPERTY; KIND 0), 4 CONTENTS (of DWELLING; KIND 1), 5 CROP (of PROPERTY; KIND 4), 6 CAR"
                + " (of COVER; KIND 2), 7 TRANSPORT (of CAR; KIND 5), 8 LIABILITY (of COVER; KIND 3).");
        check.due("dwelling, third: up to 1", traceOf(DWELLING, THIRD, false), "94 30 95 95 20 95 10");
        check.due("contents, third: up to 1", traceOf(CONTENTS, THIRD, false), "94 40 95 30 95 95 20 95 10");
        check.due("crop, fire: its own", traceOf(CROP, FIRE, false), "104 50 95");
        check.due("car, water: up to 1", traceOf(CAR, WATER, false), "104 60 95 95 95 10");
        check.due("transport, storm: up to 1", traceOf(TRANSPORT, STORM, false),
                "104 70 125 95 125 95 60 125 95 125 95 125 95 10");
        check.sentence("Owners of LOSSES: 9 LOSS, 10 DAMAGE (of LOSS; FIRE 0, WATER 1 have none of their own),"
                + " 11 THEFT (2; of DAMAGE), 12 STORM (3; of DAMAGE), 13 THIRD (4; of LOSS), 14 PART (5; of LOSS).");
        check.due("fire", traceOf(CAR, FIRE, false), "104 60 95 1 2 63 95 13");
        check.due("theft", traceOf(CAR, THEFT, false), "114 104 60 95 95 1 2 63 95");
        check.due("a part of a fire", traceOf(CAR, FIRE, true), "144 104 60 145 95 1 2 63 145 95 13");
    }

    private static void bundles() {
        check.sentence("BUNDLES (KIND 6) have no bodies: what is in a PLACE counts.");
        Desk d = policy(CAR, 1000);
        d.office.policy(6, 0, 0, 0);
        d.office.bundle(1, 3, 0);
        d.dueRows(d.office.notify(1, 3, loss(d, THEFT, 200, false), 200), 200, "90 f0 | 0 0 100 | 4 10 -10");
        d.due("the bodies of the car", d.trace(), "114 104 60 95 95 1 2 63 95");
    }
}
