/** Part 6 of the document with promises 32 and 38 to 41: THE LOG, what is TAKEN IN, letters, cases, counts. */
public final class TapesTest {
    private static final int NONE = -1, BAD = -2, STATE = -3, FULL = -7;
    private static final int LOWEST = Integer.MIN_VALUE, HIGHEST = Integer.MAX_VALUE;
    private static final long NO_ANSWER = ClaimsOffice.NO_ANSWER;
    private static final long MOST = 1000000000000L;
    private static final int FIRE = 0;
    private static final int CAR = 2;
    private static final Check check = new Check();

    public static void main(String[] args) {
        letters();
        emptyLog();
        numbersOfTheLog();
        greatNumbersOfTheLog();
        checkOfTheLog();
        actsOfTheLog();
        refusedActsAreNotInIt();
        batchesOfTheLog();
        takenIn();
        fewBytes();
        numbersOfActs();
        bytesOfArguments();
        ints();
        textsOfActs();
        cutActs();
        refusedActs();
        batchesOnTheTape();
        theLastFour();
        theFirstOfSeveral();
        nothingChanges();
        whatStays();
        findingsOfTakings();
        findingsBeyond2500();
        fortyTries();
        ofACase();
        counts();
        check.done();
    }

    private static Desk car() {
        Desk d = Desk.with(check, CAR, 0);
        d.claim(FIRE, 5, 100, 100);
        return d;
    }

    // ---- promise 32

    private static void letters() {
        check.sentence("Byte i of what was said, told, written last; NONE.");
        Desk d = car();
        Office o = d.office;
        for (int i : new int[] {LOWEST, -1, 0, 1, HIGHEST}) {
            d.due("nothing yet, letter " + i, o.letter(i), NONE);
        }
        d.owed(0, 5);
        d.due("say", o.say(), 10);
        d.due("the first", o.letter(0), 'w');
        d.due("the last", o.letter(9), 10);
        for (int i : new int[] {LOWEST, -1, 10, 11, HIGHEST}) {
            d.due("letter " + i, o.letter(i), NONE);
        }
        d.clauses(0, "by loss;");
        d.due("what was said stays", o.letter(0), 'w');
        d.due("tell", o.tell(0, o.count(4)), 9);
        d.due("the first of what was told", o.letter(0), 'b');
        d.due("no more", o.letter(9), NONE);
        int size = o.write();
        d.due("the first of what was written", o.letter(0), 2);
        d.due("the last of it", o.letter(size - 1) >= 0 ? 1 : 0, 1);
        d.due("no more", o.letter(size), NONE);
        d.due("fewer again", o.say(), 10);
        d.due("no more", o.letter(10), NONE);
        // bytes 128 .. 255 are told as they are
        Office bytes = new Office();
        bytes.batch();
        bytes.close(LOWEST, HIGHEST);
        bytes.undo();
        bytes.write();
        d.due("a byte of 255", bytes.letter(2), 255);
        d.due("a byte of 254", bytes.letter(7), 254);
    }

    // ---- THE LOG, promise 38

    private static void emptyLog() {
        check.sentence("THE LOG is written: how many bytes.");
        Desk d = new Desk(check);
        d.due("no acts", d.office.write(), 4);
        d.due("four bytes", Desk.numbers(d.said()), "0 0 0 0");
        d.due("count", d.office.count(9), 4);
        d.office.person();
        d.due("an act", d.office.write(), 5);
        d.due("again", d.office.write(), 5);
        d.office.batch();
        d.due("in a batch", d.office.write(), STATE);
        d.due("what was written stays", d.office.count(9), 5);
        d.office.undo();
        d.due("with the batch", d.office.write(), 7);
    }

    /** The bytes of a number, by an act that is HELD with it and given up. */
    private static String bytesOf(long number) {
        Desk d = new Desk(check);
        d.office.batch();
        d.office.salvage(0, 0, number);
        d.office.undo();
        d.office.write();
        String all = d.said();
        return Desk.numbers(all.substring(4, all.length() - 5));
    }

    private static void numbersOfTheLog() {
        check.sentence("it has no bound: the number of the act, then its arguments in order, each (that number, too) as"
                + " groups of seven bits, the lowest first, 128 more in all but the last one, of 2 v, or of -2 v - 1,"
                + " if v is below 0;");
        long[] numbers = {0, -1, 1, -2, 63, -64, 64, -65, 8191, -8192, 8192, -8193};
        String[] due = {"0", "1", "2", "3", "126", "127", "128 1", "129 1", "254 127", "255 127", "128 128 1", "129 128 1"};
        for (int i = 0; i < numbers.length; i++) {
            check.due("bytes of " + numbers[i], bytesOf(numbers[i]), due[i]);
        }
    }

    private static void greatNumbersOfTheLog() {
        check.sentence("it has no bound: the number of the act, then its arguments in order, each (that number, too) as"
                + " groups of seven bits, the lowest first, 128 more in all but the last one, of 2 v, or of -2 v - 1,"
                + " if v is below 0;");
        check.due("highest int", bytesOf(HIGHEST), "254 255 255 255 15");
        check.due("lowest int", bytesOf(LOWEST), "255 255 255 255 15");
        check.due("one more", bytesOf(HIGHEST + 1L), "128 128 128 128 16");
        check.due("2^62 - 1", bytesOf((1L << 62) - 1), "254 255 255 255 255 255 255 255 127");
        check.due("2^62", bytesOf(1L << 62), "128 128 128 128 128 128 128 128 128 1");
        check.due("highest long", bytesOf(Long.MAX_VALUE), "254 255 255 255 255 255 255 255 255 1");
        check.due("lowest long", bytesOf(Long.MIN_VALUE), "255 255 255 255 255 255 255 255 255 1");
        check.due("10^12", bytesOf(MOST), "128 192 168 202 154 58");
    }

    private static void checkOfTheLog() {
        check.sentence("at last four bytes, the highest first: 31 h + b again and again for each byte b before (0 .. 255),"
                + " 32 bits, h 0 at first.");
        Desk d = new Desk(check);
        int h = 0;
        for (int n = 1; n <= 9; n++) {
            d.office.person();
            h = 31 * h + 2;
            d.due("bytes", d.office.write(), n + 4);
            for (int k = 0; k < 4; k++) {
                d.due("byte " + k + " behind " + n + " acts", d.office.letter(n + k), h >>> (24 - 8 * k) & 255);
            }
        }
        // bytes of 128 and more count as 128 .. 255
        d = new Desk(check);
        d.office.batch();
        d.office.close(-65, 0);
        d.office.undo();
        // 40 28 129 1 0 44: ((((40 * 31 + 28) * 31 + 129) * 31 + 1) * 31 + 0) * 31 + 44 is 1174868672
        d.due("bytes", d.written(), "40 28 129 1 0 44 70 7 18 192");
    }

    private static void actsOfTheLog() {
        check.sentence("THE LOG has all acts that were done, batches with what they HELD (also those that were undone or"
                + " given up: 20, that, 21 or 22), as bytes;");
        Desk d = new Desk(check);
        Office o = d.office;
        o.person();
        o.rank(3, 7);
        o.policy(2, 0, 4, 60);
        o.policy(6, 0, 5, 6);
        o.bundle(1, 3, -1);
        o.bundle(1, 2, 0);
        o.period(0, 0, 50);
        Tape.type(o, "by loss ;");
        o.clauses(0);
        o.clauses(0);
        o.shareRule(0, 2);
        o.loss(1, 10);
        o.loss(0, 10);
        o.part(0, 33);
        o.item(1, 9, 55, 44);
        o.notify(0, -1, 1, 11);
        o.notify(1, 2, 2, 12);
        o.reserve(0, 13, 2, 21);
        o.pay(0, 13, 5);
        o.close(0, 14);
        o.reopen(0, 15, 1);
        o.correct(0, 16, 0, 1, 43, 15);
        o.share(0, 17, 5, 6);
        o.salvage(0, 18, 7);
        o.recourse(0, 19, 3);
        String due = "2 | 4 6 14 | 6 4 0 8 120 | 6 12 0 10 12 | 8 2 6 1 | 8 2 4 0 | 10 0 0 100"
                + " | 12 0 18 196 1 242 1 64 216 1 222 1 230 1 230 1 64 118 | 12 0 0 | 14 0 4 | 16 2 20 | 16 0 20 | 18 0 66"
                + " | 20 2 18 110 88 | 22 0 1 2 22 | 22 2 4 4 24 | 24 0 26 4 42 | 26 0 26 10 | 28 0 28 | 30 0 30 2"
                + " | 32 0 32 0 2 86 30 | 34 0 34 10 12 | 36 0 36 14 | 38 0 38 6";
        String bytes = due.replace(" |", "");
        check.sentence("Act 6 (arguments in THE LOG: the POLICY, how many bytes, each of them).");
        d.due("all acts", o.write(), bytes.split(" ").length + 4);
        String all = d.said();
        d.due("all acts", Desk.numbers(all.substring(0, all.length() - 4)), bytes);
    }

    private static void refusedActsAreNotInIt() {
        check.sentence("THE LOG has all acts that were done, batches with what they HELD (also those that were undone or"
                + " given up: 20, that, 21 or 22), as bytes;");
        Desk d = car();
        Office o = d.office;
        int size = o.write();
        o.rank(9, 9);
        o.policy(9, 9, 9, 9);
        o.period(0, 9, 9);
        d.clauses(0, "#");
        o.loss(9, 9);
        o.notify(0, NONE, 0, 4);
        o.pay(0, 5, 101);
        o.pay(0, 5, 0);
        o.reopen(0, 5, 0);
        o.end();
        o.undo();
        o.takeIn();
        o.owed(0, 5, o.count(4));
        o.type(0, 0);
        d.due("no more bytes", o.write(), size);
        // of what a BATCH was told beyond 60 nothing is HELD
        o.batch();
        for (int i = 0; i < 61; i++) {
            o.close(0, 5);
        }
        o.batch();
        o.undo();
        d.due("20, 60 times 14 0 5, 22", o.write(), size + 1 + 60 * 3 + 1);
    }

    private static void batchesOfTheLog() {
        check.sentence("Act 21 (behind 20 and what was HELD, each as its act).");
        Desk d = car();
        Office o = d.office;
        int before = o.write() - 4;
        o.batch();
        o.end();
        o.batch();
        o.undo();
        o.batch();
        o.pay(0, 5, 7);
        o.close(0, 5);
        o.end();
        o.batch();
        o.pay(0, 5, 7);
        o.end();
        o.batch();
        o.reopen(0, 5, 0);
        o.undo();
        o.reopen(0, 5, 0);
        o.write();
        String all = d.said();
        d.due("done, given up, done, undone, given up", Desk.numbers(all.substring(before, all.length() - 4)),
                "40 42 40 44 40 26 0 10 14 28 0 10 42 40 26 0 10 14 42 40 30 0 10 0 44 30 0 10 0");
    }

    // ---- promise 39

    private static int taken(int... bytes) {
        return new Desk(check).takeIn(Desk.checked(bytes));
    }

    /** It is refused at that place; THE TAPE and the office stay. */
    private static void refused(String what, int place, int... bytes) {
        Desk d = new Desk(check);
        d.office.person();
        d.office.person();
        String tape = Desk.checked(bytes);
        check.due(what, d.takeIn(tape), -10 - place);
        check.due("THE TAPE behind " + what, d.office.count(8), tape.length());
        check.due("persons behind " + what, d.office.count(0), 2);
        check.due("THE LOG behind " + what, d.written(), "2 2 0 0 0 64");
        check.due("again " + what, d.office.takeIn(), -10 - place);
    }

    private static void takenIn() {
        check.sentence("THE TAPE, which is empty then, is TAKEN IN: a new office does its acts in order, and this one is that:"
                + " how many acts.");
        Desk d = car();
        d.due("nothing", d.takeIn(Desk.checked()), 0);
        for (int what = 0; what <= 8; what++) {
            d.due("count " + what, d.office.count(what), 0);
        }
        d.due("no case", d.office.of(0, 0), BAD);
        d.due("no policy", d.office.tell(0, 0), BAD);
        d.due("two acts", d.takeIn(Desk.checked(2, 2)), 2);
        d.due("persons", d.office.count(0), 2);
        d.due("moment", d.office.count(4), 2);
        d.due("a batch of one, done", d.takeIn(Desk.checked(40, 42, 2)), 3);
        d.due("batches", d.office.count(5), 1);
        d.due("the next batch", d.office.batch(), 2);
    }

    private static void fewBytes() {
        check.sentence("(of place 0, if THE TAPE has not four bytes).");
        for (int size = 0; size <= 3; size++) {
            Desk d = new Desk(check);
            d.office.person();
            d.due("a tape of " + size, d.takeIn("\0".repeat(size)), -10);
            d.due("it stays", d.office.count(8), size);
            d.due("persons", d.office.count(0), 1);
        }
        check.due("a tape of four", new Desk(check).takeIn("\0\0\0\0"), 0);
        check.due("three of an act", new Desk(check).takeIn("\2\2\2"), -10);
    }

    private static void numbersOfActs() {
        check.sentence("-10 less a place (then nothing changes, THE TAPE stays): of the first byte of the first act that is"
                + " not as told (its number; an argument of more bytes than need be, beyond 64 bits, or that is no int where"
                + " the act has one; as many bytes of act 6 as there may not be, or one that is none), ends in the last four"
                + " bytes or behind them, or is refused (an end by which all is undone is not);");
        refused("act 0", 1, 2, 0, 2);
        refused("act 23", 1, 2, 46, 2);
        refused("act -1", 1, 2, 1, 2);
        refused("act -22", 1, 2, 43, 2);
        refused("act 64", 1, 2, 128, 1, 2);
        refused("act 2^32 + 1, as an int 1", 1, 2, 130, 128, 128, 128, 32, 2);
        refused("act 1 in two bytes", 1, 2, 130, 0, 2);
        refused("act 1 in ten bytes", 0, 130, 128, 128, 128, 128, 128, 128, 128, 128, 0);
        check.due("act 1", taken(2), 1);
        check.due("act 22", taken(40, 44), 2);
    }

    private static void bytesOfArguments() {
        check.sentence("-10 less a place (then nothing changes, THE TAPE stays): of the first byte of the first act that is"
                + " not as told (its number; an argument of more bytes than need be, beyond 64 bits, or that is no int where"
                + " the act has one; as many bytes of act 6 as there may not be, or one that is none), ends in the last four"
                + " bytes or behind them, or is refused (an end by which all is undone is not);");
        refused("0 in two bytes", 1, 2, 4, 128, 0, 0);
        refused("5 in two bytes", 1, 2, 4, 138, 0, 0);
        refused("5 in three bytes", 1, 2, 4, 138, 128, 0, 0);
        refused("the last argument in two bytes", 1, 2, 4, 0, 138, 0);
        // longs of a HELD salvage: 20, 18 0 0 v, 22
        int[] top = {255, 255, 255, 255, 255, 255, 255, 255, 255};
        check.due("64 bits, all set", taken(held(top, 1)), 3);
        refused("a 65th bit", 1, held(top, 2));
        refused("65 bits, all set", 1, held(top, 3));
        refused("a 70th bit", 1, held(top, 64));
        refused("the tenth byte goes on", 1, held(top, 129));
        refused("ten bytes, the last one 0", 1, held(top, 0));
        int[] low = {128, 128, 128, 128, 128, 128, 128, 128, 128};
        check.due("the 64th bit alone", taken(held(low, 1)), 3);
        refused("the 65th bit alone", 1, held(low, 2));
        refused("none at all", 1, held(low, 0));
        check.due("a last byte of 127", taken(40, 28, 127, 0, 44), 3);
        check.due("a last byte of 127, the second", taken(40, 28, 255, 127, 126, 44), 3);
        refused("an eleventh byte", 1, 40, 36, 0, 0, 128, 128, 128, 128, 128, 128, 128, 128, 128, 128, 1, 44);
        refused("9 bytes, the last one 0", 1, 40, 36, 0, 0, 128, 128, 128, 128, 128, 128, 128, 128, 0, 44);
        check.due("9 bytes", taken(40, 36, 0, 0, 128, 128, 128, 128, 128, 128, 128, 128, 1, 44), 3);
    }

    private static int[] held(int[] nine, int tenth) {
        int[] all = new int[4 + nine.length + 2];
        all[0] = 40;
        all[1] = 36;
        System.arraycopy(nine, 0, all, 4, nine.length);
        all[13] = tenth;
        all[14] = 44;
        return all;
    }

    private static void ints() {
        check.sentence("-10 less a place (then nothing changes, THE TAPE stays): of the first byte of the first act that is"
                + " not as told (its number; an argument of more bytes than need be, beyond 64 bits, or that is no int where"
                + " the act has one; as many bytes of act 6 as there may not be, or one that is none), ends in the last four"
                + " bytes or behind them, or is refused (an end by which all is undone is not);");
        // each argument of each FACT, HELD: the greatest ints, and one beyond them
        String[] shapes = {"iiil", "iil", "ii", "iii", "iiiili", "iiil", "iil", "iil"};
        long[] numbers = {HIGHEST, LOWEST, HIGHEST + 1L, LOWEST - 1L, 1L << 32, -(1L << 32), Long.MAX_VALUE, Long.MIN_VALUE};
        for (int act = 12; act <= 19; act++) {
            String shape = shapes[act - 12];
            for (int k = 0; k < shape.length(); k++) {
                for (int n = 0; n < numbers.length; n++) {
                    long[] arguments = new long[shape.length()];
                    arguments[k] = numbers[n];
                    String tape = new Tape().add(20).add(act, arguments).add(22).good();
                    boolean fits = n < 2 || shape.charAt(k) == 'l';
                    check.due("argument " + k + " of act " + act + ": " + numbers[n], new Desk(check).takeIn(tape), fits ? 3 : -11);
                }
            }
        }
        // of other acts: what is no int is refused, though its low bits would do
        long wrap = 1L << 32;
        Tape[] bad = {new Tape().add(2, wrap, 0), new Tape().add(2, 0, wrap), new Tape().add(8, wrap, 5),
            new Tape().add(8, 0, wrap + 5)};
        for (Tape tape : bad) {
            check.due("no int", new Desk(check).takeIn(tape.good()), -10);
        }
        String made = new Tape().add(1).add(3, 0, 0, 0, 400).add(8, 0, 5).good();
        int ahead = made.length() - 4;
        long[][] acts = {{3, wrap, 0, 0, 5}, {3, 0, wrap, 0, 5}, {3, 0, 0, wrap, 5}, {3, 0, 0, 0, wrap + 5}, {5, wrap, 0, 5},
            {5, 0, wrap, 5}, {7, wrap, 0}, {7, 0, wrap}, {9, wrap, 5}, {9, 0, wrap + 5}, {10, wrap, 0, 5, 5}, {10, 0, wrap, 5, 5},
            {11, wrap, -1, 0, 5}, {11, 0, wrap - 1, 0, 5}, {11, 0, -1, wrap, 5}, {11, 0, -1, 0, wrap + 5}, {6, wrap, 0},
            {6, 0, wrap}};
        for (long[] a : acts) {
            long[] arguments = java.util.Arrays.copyOfRange(a, 1, a.length);
            String tape = new Tape().add(1).add(3, 0, 0, 0, 400).add(8, 0, 5).add((int) a[0], arguments).good();
            check.due("no int in " + java.util.Arrays.toString(a), new Desk(check).takeIn(tape), -10 - ahead);
        }
        // a long that is no MONEY is refused, too, by the act
        for (long sum : new long[] {MOST + 1, -1, Long.MAX_VALUE, Long.MIN_VALUE}) {
            String tape = new Tape().add(1).add(3, 0, 0, 0, 400).add(8, 0, 5).add(5, 0, 0, sum).good();
            check.due("SUM " + sum, new Desk(check).takeIn(tape), -10 - ahead);
        }
        String good = new Tape().add(1).add(3, 0, 0, 0, 400).add(8, 0, 5).add(5, 0, 0, MOST).good();
        check.due("SUM of 10^12", new Desk(check).takeIn(good), 4);
        check.due("AMOUNT of 10^12", new Desk(check).takeIn(new Tape().add(8, 0, 5).add(10, 0, 0, MOST, 5).good()), 2);
        check.due("VALUE of 10^12", new Desk(check).takeIn(new Tape().add(8, 0, 5).add(10, 0, 0, 5, MOST).good()), 2);
    }

    private static int[] text(int... bytes) {
        int[] all = new int[6 + bytes.length];
        System.arraycopy(new int[] {2, 6, 4, 0, 0, 2}, 0, all, 0, 6);
        System.arraycopy(bytes, 0, all, 6, bytes.length);
        return all;
    }

    private static void textsOfActs() {
        check.sentence("-10 less a place (then nothing changes, THE TAPE stays): of the first byte of the first act that is"
                + " not as told (its number; an argument of more bytes than need be, beyond 64 bits, or that is no int where"
                + " the act has one; as many bytes of act 6 as there may not be, or one that is none), ends in the last four"
                + " bytes or behind them, or is refused (an end by which all is undone is not);");
        check.due("no bytes", taken(text(12, 0, 0)), 3);
        check.due("a blank", taken(text(12, 0, 2, 64)), 3);
        refused("-1 bytes", 6, text(12, 0, 1));
        refused("a byte -1", 6, text(12, 0, 2, 1));
        refused("a byte 256", 6, text(12, 0, 2, 128, 4));
        refused("a byte 256 + 32", 6, text(12, 0, 2, 192, 4));
        refused("a byte 32 - 256", 6, text(12, 0, 2, 191, 3));
        refused("a byte 2^32 + 32", 6, text(12, 0, 2, 192, 128, 128, 128, 32));
        refused("a byte 32 in two", 6, text(12, 0, 2, 192, 0));
        refused("a byte 255, which is a FAULT", 6, text(12, 0, 2, 254, 3));
        refused("fewer bytes than told", 6, text(12, 0, 4, 64));
        refused("more bytes than told", 10, text(12, 0, 2, 64, 64));
        refused("a FAULT", 6, text(12, 0, 2, 70));
        refused("of no POLICY", 6, text(12, 2, 0));
        refused("of a POLICY -1", 6, text(12, 1, 0));
        for (int size = 399; size <= 402; size++) {
            Tape tape = new Tape().add(1).add(3, 2, 0, 0, 1).addClauses(0, "item 5;" + " ".repeat(size - 7));
            check.due(size + " bytes", new Desk(check).takeIn(tape.good()), size <= 400 ? 3 : -16);
        }
        // 400 told, as many there: each FAULT of the text makes the act a refused one
        Tape tape = new Tape().add(1).add(3, 2, 0, 0, 1).addClauses(0, " ".repeat(399) + "#");
        check.due("a FAULT at its end", new Desk(check).takeIn(tape.good()), -16);
        // 151 of them
        tape = new Tape().add(1).add(3, 2, 0, 0, 1);
        for (int i = 0; i < 150; i++) {
            tape.addClauses(0, "");
        }
        check.due("150 texts", new Desk(check).takeIn(tape.good()), 152);
        check.due("151 texts", new Desk(check).takeIn(tape.addClauses(0, "").good()), -10 - 6 - 450);
        // each text is its own
        Desk d = new Desk(check);
        tape = new Tape().add(1).add(3, 2, 0, 0, 1).addClauses(0, "item 5;").addClauses(0, "loss 77;").addClauses(0, "");
        d.due("three texts", d.takeIn(tape.good()), 5);
        int[] sizes = {0, 0, 0, 8, 9, 0};
        for (int moment = 0; moment <= 5; moment++) {
            d.due("told at " + moment, d.office.tell(0, moment), sizes[moment]);
        }
        // a text stays as it was told: in THE LOG byte by byte
        d = new Desk(check);
        String log = new Tape().add(1).add(3, 2, 0, 0, 1).addClauses(0, " item\n007 ;").good();
        d.takeIn(log);
        d.due("written again", d.written(), Desk.numbers(log));
    }

    private static void cutActs() {
        check.sentence("-10 less a place (then nothing changes, THE TAPE stays): of the first byte of the first act that is"
                + " not as told (its number; an argument of more bytes than need be, beyond 64 bits, or that is no int where"
                + " the act has one; as many bytes of act 6 as there may not be, or one that is none), ends in the last four"
                + " bytes or behind them, or is refused (an end by which all is undone is not);");
        // an act that would go on in the last four bytes, or behind them
        for (int cut = 1; cut <= 5; cut++) {
            int[] whole = {6, 4, 0, 4, 8};
            int[] bytes = new int[1 + cut];
            bytes[0] = 2;
            System.arraycopy(whole, 0, bytes, 1, cut);
            if (cut < 5) {
                refused("an act of " + cut + " bytes", 1, bytes);
            } else {
                check.due("all of it", taken(bytes), 2);
            }
        }
        refused("a number of an act that goes on", 1, 2, 130);
        refused("an argument that goes on", 1, 2, 4, 0, 128);
        // the check would be right, if the act ended ahead of it: the act ends in the last four bytes
        Desk d = new Desk(check);
        d.due("4 0 with 0 0 0 0 behind it", d.takeIn("\4\0\0\0\0\0"), -10);
        d.due("it stays", d.office.count(8), 6);
        // one more byte, and the act ends just ahead of them
        d.due("4 0 0 and the last four", d.takeIn(Desk.checked(4, 0, 0)), 1);
        d.due("a text that ends in the last four", d.takeIn("\2\6\4\0\0\2" + "\14\0\4\100" + "\100\100\100\100"), -16);
    }

    private static void refusedActs() {
        check.sentence("-10 less a place (then nothing changes, THE TAPE stays): of the first byte of the first act that is"
                + " not as told (its number; an argument of more bytes than need be, beyond 64 bits, or that is no int where"
                + " the act has one; as many bytes of act 6 as there may not be, or one that is none), ends in the last four"
                + " bytes or behind them, or is refused (an end by which all is undone is not);");
        refused("BAD", 1, 2, 4, 12, 0);
        refused("STATE", 1, 2, 42);
        refused("DAY", 10, 2, 6, 4, 0, 0, 10, 2, 16, 0, 10, 22, 0, 1, 0, 8);
        refused("MUCH", 14, 2, 6, 4, 0, 0, 10, 16, 0, 10, 22, 0, 1, 0, 10, 26, 0, 10, 2);
        String office = new Tape().add(1).add(3, 2, 0, 0, 5).add(8, 0, 5).add(11, 0, -1, 0, 5).add(14, 0, 5).good();
        int ahead = office.length() - 4;
        Tape late = new Tape().add(1).add(3, 2, 0, 0, 5).add(8, 0, 5).add(11, 0, -1, 0, 5).add(14, 0, 5).add(15, 0, 36, 0);
        check.due("LATE", new Desk(check).takeIn(late.good()), -10 - ahead);
        Tape intime = new Tape().add(1).add(3, 2, 0, 0, 5).add(8, 0, 5).add(11, 0, -1, 0, 5).add(14, 0, 5).add(15, 0, 35, 0);
        check.due("not LATE", new Desk(check).takeIn(intime.good()), 6);
        Tape full = new Tape();
        for (int i = 0; i < 100; i++) {
            full.add(1);
        }
        check.due("100 persons", new Desk(check).takeIn(full.good()), 100);
        check.due("FULL", new Desk(check).takeIn(full.add(1).good()), -110);
    }

    private static void batchesOnTheTape() {
        check.sentence("-10 less a place (then nothing changes, THE TAPE stays): of the first byte of the first act that is"
                + " not as told (its number; an argument of more bytes than need be, beyond 64 bits, or that is no int where"
                + " the act has one; as many bytes of act 6 as there may not be, or one that is none), ends in the last four"
                + " bytes or behind them, or is refused (an end by which all is undone is not);");
        refused("an end of none", 0, 42);
        refused("an undo of none", 0, 44);
        refused("a batch within one", 1, 40, 40, 42, 42);
        refused("a person within one", 1, 40, 2, 42);
        refused("a loss within one", 2, 2, 40, 16, 0, 10, 42);
        Desk d = new Desk(check);
        d.due("an end by which all is undone", d.takeIn(Desk.checked(2, 40, 28, 0, 0, 42, 2)), 5);
        d.due("tries", d.office.count(6), 1);
        d.due("moment", d.office.count(4), 2);
        Tape sixty = new Tape().add(20);
        for (int i = 0; i < 60; i++) {
            sixty.add(14, 0, 0);
        }
        check.due("60 are HELD", new Desk(check).takeIn(new Tape().add(20).add(14, 0, 0).add(22).good()), 3);
        String place = sixty.good();
        check.due("the 61st is refused", new Desk(check).takeIn(sixty.add(14, 0, 0).add(22).good()), -10 - (place.length() - 4));
        // a BATCH that THE TAPE leaves open is under way
        d.due("left open", d.takeIn(Desk.checked(2, 40, 28, 0, 0)), 3);
        d.due("held now", d.office.count(7), 1);
        d.due("it is under way", d.office.person(), STATE);
        d.due("taking in is STATE", d.office.takeIn(), STATE);
        d.due("undo", d.office.undo(), 1);
    }

    private static void theLastFour() {
        check.sentence("else of the four last ones, if they are not as told");
        String good = Desk.checked(2, 2, 2);
        for (int k = 0; k < 4; k++) {
            for (int bit : new int[] {1, 128}) {
                char[] bytes = good.toCharArray();
                bytes[3 + k] ^= bit;
                Desk d = new Desk(check);
                d.due("byte " + k + " with another bit", d.takeIn(new String(bytes)), -13);
                d.due("it stays", d.office.count(8), 7);
                d.due("nothing changes", d.office.count(0), 0);
            }
        }
        Desk d = new Desk(check);
        d.due("of no acts", d.takeIn("\0\0\0\1"), -10);
        d.due("of no acts", d.takeIn("\1\0\0\0"), -10);
        d.due("the lowest first", d.takeIn("\2\2\0\0\0"), -11);
        d.due("the highest first", d.takeIn("\2\0\0\0\2"), 1);
    }

    private static void theFirstOfSeveral() {
        check.sentence("else of the four last ones, if they are not as told");
        Desk d = new Desk(check);
        d.due("an act ahead of a wrong check", d.takeIn("\2\0\0\0\0\0"), -11);
        d.due("the first of two acts", d.takeIn(Desk.checked(2, 42, 44)), -11);
        d.due("a refused one ahead of one that is not as told", d.takeIn(Desk.checked(2, 42, 0)), -11);
        d.due("one that is not as told ahead of a refused one", d.takeIn(Desk.checked(2, 0, 42)), -11);
        d.due("at its first byte, not where it goes wrong", d.takeIn(Desk.checked(2, 6, 0, 0, 0, 138, 0)), -11);
        d.due("a right act, then a wrong check", d.takeIn("\2\0\0\0\0"), -11);
    }

    private static void nothingChanges() {
        check.sentence("-10 less a place (then nothing changes, THE TAPE stays): of the first byte of the first act that is"
                + " not as told (its number; an argument of more bytes than need be, beyond 64 bits, or that is no int where"
                + " the act has one; as many bytes of act 6 as there may not be, or one that is none), ends in the last four"
                + " bytes or behind them, or is refused (an end by which all is undone is not);");
        Desk d = car();
        Office o = d.office;
        d.clauses(0, "interest 5; year 9999;");
        o.pay(0, 10, 50);
        o.reserve(0, 11, 1, 33);
        o.batch();
        o.undo();
        String before = look(d);
        String[] tapes = {"", "\0\0\0", Desk.checked(2, 2, 0), "\2\2\2\2\2\2",
            new Tape().add(1).add(3, 3, 0, 0, 400).add(5, 0, 0, 7).addClauses(0, "by loss;").add(8, 4, 9).add(11, 0, -1, 0, 9)
                    .add(12, 0, 9, 1, 44).add(20).add(14, 0, 9).add(21).bad()};
        for (String tape : tapes) {
            d.due("refused", d.takeIn(tape) <= -10 ? 1 : 0, 1);
            d.due("the tape stays", o.count(8), tape.length());
            d.due("nothing changes", look(d), before);
        }
        d.due("it goes on", o.reserve(0, 11, 1, 34), 1);
    }

    private static String look(Desk d) {
        StringBuilder look = new StringBuilder(d.rows(0, 20));
        Office o = d.office;
        int now = o.count(4);
        for (int what = 0; what <= 7; what++) {
            look.append(' ').append(o.count(what));
        }
        for (int what = 0; what <= 6; what++) {
            look.append(' ').append(o.of(0, what));
        }
        look.append(' ').append(o.used(0, 0, now)).append(' ').append(o.reserved(1, 0, now)).append(' ').append(o.tell(0, now));
        return look.append(' ').append(o.write()).append(' ').append(o.letter(o.count(9) - 1)).toString();
    }

    private static void whatStays() {
        check.sentence("What was said, told, written, LOOKED AT stays;"
                + " FINDINGS that are met by it are counted with the others (also where it is refused).");
        Desk d = car();
        Office o = d.office;
        d.owed(0, 5);
        o.say();
        d.due("taken in", d.takeIn(Desk.checked(2)), 1);
        d.due("no case any more", o.of(0, 0), BAD);
        d.due("what was said", d.said(), "worth 100\n");
        d.due("LOOKED AT", o.cents(0), 100);
        d.due("its trace", o.trace(0), 104);
        d.due("said again", o.say(), 10);
        d.due("a case that is none any more", o.owed(0, 5, 1), NO_ANSWER);
        d.due("LOOKED AT still", o.row(0, 0), 0);
        o.write();
        d.takeIn(Desk.checked(2, 2));
        d.due("what was written", Desk.numbers(d.said()), "2 0 0 0 2");
        // a FINDING of what was LOOKED AT stays, too
        d = Desk.with(check, CAR, 0);
        d.claim(FIRE, 1095, 5, 5);
        d.owed(0, 1095);
        d.takeIn(Desk.checked(2));
        d.due("its FINDING", d.office.finding(), 3);
        d.due("findings", d.office.count(10), 1);
    }

    private static void findingsOfTakings() {
        check.sentence("What was said, told, written, LOOKED AT stays;"
                + " FINDINGS that are met by it are counted with the others (also where it is refused).");
        // a case without a SUM: each pay() of it meets NOTHING
        Desk d = Desk.with(check, CAR, 0);
        d.claim(FIRE, 1095, 5, 5);
        d.owed(0, 1095);
        Tape tape = new Tape().add(1).add(3, 2, 0, 0, 5).add(8, 0, 5).add(11, 0, -1, 0, 5);
        for (int i = 0; i < 7; i++) {
            tape.add(20).add(13, 0, 5, 1).add(21);
        }
        d.due("taken in", d.takeIn(tape.good()), 4 + 21);
        d.due("findings", d.office.count(10), 8);
        d.due("tries of the new one", d.office.count(6), 7);
        d.due("refused at its end", d.takeIn(tape.bad()) <= -10 ? 1 : 0, 1);
        d.due("findings", d.office.count(10), 15);
        d.due("refused by a FINDING", d.takeIn(tape.add(13, 0, 5, 1).good()) <= -10 ? 1 : 0, 1);
        d.due("findings", d.office.count(10), 23);
    }

    private static void findingsBeyond2500() {
        check.sentence("when 2500 were, owed() is as BAD, pay() is FULL (ahead of MUCH).");
        // 250 pay() of a BATCH each meet NOTHING; ten tries of it are 2500
        Desk d = new Desk(check);
        Tape tape = new Tape().add(1).add(3, 2, 0, 0, 5).add(8, 0, 5).add(11, 0, -1, 0, 5);
        for (int i = 0; i < 250; i++) {
            tape.add(20).add(13, 0, 5, 1).add(21);
        }
        String bytes = tape.bad();
        d.type(bytes);
        for (int i = 1; i <= 10; i++) {
            d.due("try " + i, d.office.takeIn(), -10 - (bytes.length() - 4));
            d.due("findings", d.office.count(10), 250 * i);
        }
        d.due("no more are met", d.office.takeIn(), -10 - (bytes.length() - 4));
        d.due("findings", d.office.count(10), 2500);
        // pay() as an act of its own is refused as FULL, where it stands
        Tape paid = new Tape().add(1).add(3, 2, 0, 0, 5).add(5, 0, 0, 5).add(8, 0, 5).add(10, 0, 0, 9, 9).add(11, 0, -1, 0, 5);
        int place = paid.good().length() - 4;
        d.due("its pay() is FULL", d.takeIn(paid.add(13, 0, 5, 1).good()), -10 - place);
        d.due("in another office it is done", new Desk(check).takeIn(paid.good()), 7);
    }

    private static void fortyTries() {
        check.sentence("FULL: 40 were tried.");
        Desk d = new Desk(check);
        Office o = d.office;
        o.batch();
        for (int i = 0; i < 3; i++) {
            d.due("STATE is no try", o.takeIn(), STATE);
        }
        o.undo();
        for (int i = 0; i < 38; i++) {
            d.due("refused", o.takeIn(), -10);
        }
        d.due("the 39th", d.takeIn(Desk.checked(2, 2)), 2);
        d.due("the 40th, which is refused", d.takeIn("\1\1\1\1\1"), -10);
        d.due("the 41st", d.takeIn(Desk.checked(2)), FULL);
        d.due("the tape stays", o.count(8), 5);
        d.due("ahead of a place", d.takeIn(""), FULL);
        d.due("persons", o.count(0), 2);
        o.batch();
        d.due("STATE ahead of FULL", o.takeIn(), STATE);
        o.undo();
        d.due("acts go on", o.person(), 2);
        // all 40 of them good ones
        d = new Desk(check);
        for (int i = 1; i <= 40; i++) {
            d.due("try " + i, d.takeIn(Desk.checked(2)), 1);
        }
        d.due("the 41st", d.takeIn(Desk.checked(2)), FULL);
        d.due("a new office has tries of its own", new Desk(check).takeIn(Desk.checked(2)), 1);
    }

    // ---- promises 40, 41

    private static void ofACase() {
        check.sentence("Of a case as KNOWN now: 0 its POLICY, 1 PLACE, 2 LOSS, 3 NOTICE, 4 whether it is OPEN,"
                + " 5 how many FACTS, 6 its MOMENT. BAD.");
        Desk d = car();
        Office o = d.office;
        o.policy(6, 0, 0, 5);
        o.notify(1, 3, o.part(0, 50), 10949);
        for (int what : new int[] {LOWEST, -1, 7, HIGHEST}) {
            d.due("what " + what, o.of(0, what), BAD);
        }
        for (int theCase : new int[] {LOWEST, -1, 2, HIGHEST}) {
            for (int what = -1; what <= 7; what++) {
                d.due("case " + theCase + ", what " + what, o.of(theCase, what), BAD);
            }
        }
        int[][] due = {{0, -1, 0, 5, 1, 0, 8}, {1, 3, 1, 10949, 1, 0, 11}};
        for (int c = 0; c < 2; c++) {
            for (int what = 0; what <= 6; what++) {
                d.due("of(" + c + ", " + what + ")", o.of(c, what), due[c][what]);
            }
        }
        o.close(0, 10949);
        d.due("not OPEN", o.of(0, 4), 0);
        d.due("FACTS", o.of(0, 5), 1);
        d.due("MOMENT", o.of(0, 6), 8);
        d.due("the other", o.of(1, 4), 1);
        d.due("of a new one", new Office().of(0, 0), BAD);
    }

    private static void counts() {
        check.sentence("0 PERSONS, 1 POLICIES, 2 LOSSES, 3 cases, 4 the MOMENT now, 5 BATCHES begun, 6 TRIES, 7 HELD now,"
                + " 8 bytes on THE TAPE, 9 bytes said, told, written last, 10 FINDINGS that were met. BAD.");
        Desk d = Desk.with(check, CAR, 0);
        Office o = d.office;
        for (int what : new int[] {LOWEST, -1, 11, HIGHEST}) {
            d.due("what " + what, o.count(what), BAD);
        }
        o.person();
        o.person();
        o.policy(6, 0, 0, 5);
        d.claim(FIRE, 1095, 5, 5);
        o.part(0, 5);
        o.part(0, 5);
        o.part(0, 5);
        d.owed(0, 1095);
        o.pay(0, 1095, 1);
        o.write();
        o.say();
        o.tell(0, 0);
        o.batch();
        o.undo();
        o.batch();
        o.end();
        o.batch();
        o.close(0, 1095);
        o.close(0, 1095);
        o.type(7, 5);
        int[] due = {3, 2, 4, 1, 14, 3, 2, 2, 5, 0, 2};
        for (int what = 0; what <= 10; what++) {
            d.due("count " + what, o.count(what), due[what]);
        }
        for (int what = 0; what <= 10; what++) {
            d.due("of a new one, " + what, new Office().count(what), 0);
        }
    }
}
