import com.sun.management.ThreadMXBean;
import java.lang.management.ManagementFactory;

/** Rule 12 with promises 8 and 39: what is tried again and again makes nothing anew, and answers as at first. */
public final class RoomTest {
    private static final int FULL = -7, TRIES = 40;
    /** Calls of an office that is typed on for long, or looked at from all sides behind its tries. */
    private static final int MANY = 20000;
    /** Bytes that the machine may make by itself as it compiles; tries that made offices anew would make far more. */
    private static final long LITTLE = 20000;
    private static final ThreadMXBean THREADS = (ThreadMXBean) ManagementFactory.getThreadMXBean();
    private static final Check check = new Check();

    public static void main(String[] args) {
        manyThings();
        manyPolicies();
        manyWords();
        batchesUndone();
        growing();
        faultsOfTexts();
        looksBehindEachTry();
        writtenBehindTries();
        turnAbout();
        smallBehindGreat();
        check.done();
    }

    // ---- tapes

    /** As many things as one TAPE may have, each in its fewest bytes. */
    private static Tape things() {
        Tape tape = new Tape();
        repeat(tape, 3, 1);
        tape.add(3, 0, 0, 0, 63);
        repeat(tape, 200, 8, 0, 0);
        repeat(tape, 100, 11, 0, -1, 0, 0);
        repeat(tape, 60, 2, 0, 0);
        repeat(tape, 150, 7, 0, 0);
        repeat(tape, 150, 6, 0, 0);
        repeat(tape, 300, 5, 0, 0, 0);
        for (int c = 0; c < 12; c++) {
            tape.add(18, c, 0, 0);
        }
        for (int c = 0; c < 100; c++) {
            tape.add(14, c, 0);
        }
        return tape;
    }

    private static void repeat(Tape tape, int times, int act, long... arguments) {
        for (int i = 0; i < times; i++) {
            tape.add(act, arguments);
        }
    }

    /** Some of all that an office may have; a FINDING is met once as it is taken in. */
    private static Tape office() {
        Tape tape = new Tape().add(1).add(1).add(3, 0, 1, 0, 800).add(3, 6, 0, 0, 400).add(3, 2, 1, 100, 500);
        tape.add(5, 0, 0, 90000).add(5, 0, 1, 80000).add(5, 2, 0, 70000).add(4, 1, 2, 0).add(4, 1, 3, 2);
        tape.addClauses(0, "out fire unless amount 5 and(not late 3 or sort 3);year 5000;own year 70;interest 900;");
        tape.addClauses(2, "average;by loss;").add(7, 0, 2).add(2, 3, 9).add(2, 0, 4);
        tape.add(8, 3, 20).add(10, 0, 3, 5000, 6000).add(10, 0, 4, 700, 300).add(9, 0, 50).add(9, 1, 90);
        tape.add(8, 0, 300).add(10, 3, 1, 4000, 4500).add(8, 4, 760);
        tape.add(11, 0, -1, 0, 21).add(11, 1, 2, 2, 30).add(11, 1, 3, 3, 310).add(11, 1, 0, 4, 790);
        tape.add(17, 0, 25, 3, 2000).add(13, 0, 40, 300).add(12, 0, 41, 2, 77).add(16, 1, 31, 1, 1, 900, 30);
        tape.add(20).add(14, 0, 50).add(15, 0, 55, 0).add(18, 0, 60, 8).add(21);
        tape.add(20).add(19, 0, 61, 10).add(13, 3, 800, 5).add(21);
        return tape.add(20).add(14, 2, 311).add(22).add(14, 1, 70);
    }

    /** Another one, with other things under the same numbers. */
    private static Tape otherOffice() {
        Tape tape = new Tape().add(1).add(3, 6, 0, 0, 10).add(3, 1, 0, 0, 400).add(3, 5, 0, 200, 900);
        tape.add(4, 0, 0, 1).add(5, 1, 0, 12345).add(5, 2, 0, 54321).add(5, 2, 0, 55555);
        tape.addClauses(1, "").addClauses(1, "in any unless is third;item 900;own loss 3;loss 1500;");
        tape.add(8, 4, 7).add(8, 1, 20).add(10, 1, 2, 1000, 2000).add(8, 3, 210).add(10, 2, 9, 800, 800).add(9, 2, 100);
        tape.add(11, 0, 0, 1, 25).add(11, 1, -1, 0, 26).add(11, 2, -1, 3, 220);
        return tape.add(13, 0, 30, 5).add(19, 0, 31, 4).add(17, 0, 31, 1, 0).add(20).add(14, 1, 40).add(21);
    }

    // ---- what is made

    private static long made() {
        return THREADS.getCurrentThreadAllocatedBytes();
    }

    /** Tries what is on THE TAPE 40 times; all but the first try make next to nothing. */
    private static void tryAgain(String what, Office office, int want) {
        int[] answers = new int[TRIES];
        answers[0] = office.takeIn();
        long before = made();
        for (int i = 1; i < TRIES; i++) {
            answers[i] = office.takeIn();
        }
        long bytes = made() - before;
        check.due("12 little is made by 39 tries: " + what + " (" + bytes + ")", bytes <= LITTLE ? 1 : 0, 1);
        for (int i = 0; i < TRIES; i++) {
            check.due("39 try " + i + ": " + what, answers[i], want);
        }
    }

    private static void manyThings() {
        Office office = new Office();
        String tape = things().bad();
        check.due("7 bytes", tape.length(), 3776);
        check.due("7 calls", Tape.type(office, tape), 472);
        tryAgain("many things", office, -3782);

        Office other = new Office();
        Tape.type(other, things().good());
        check.due("39 as it should be", other.takeIn(), things().acts);
        check.due("41 cases", other.count(3), 100);
        check.due("41 moment", other.count(4), things().acts);
        check.due("6 full", other.period(0, 0, 0), FULL);
    }

    private static void manyPolicies() {
        Tape tape = new Tape().add(1);
        repeat(tape, 100, 3, 6, 0, 0, 0);
        repeat(tape, 200, 4, 99, 0, 0);
        Office office = new Office();
        Tape.type(office, tape.bad());
        tryAgain("many policies", office, -10 - (tape.good().length() - 4));
    }

    private static void manyWords() {
        Tape tape = new Tape().add(1).add(3, 0, 0, 0, 5);
        StringBuilder text = new StringBuilder("in any unless not not sort1");
        for (int i = 0; i < 30; i++) {
            text.append("or not late1");
        }
        for (int i = 0; i < 4; i++) {
            tape.addClauses(0, text + ";by loss;");
        }
        Office office = new Office();
        Tape.type(office, tape.bad());
        tryAgain("many words", office, -10 - (tape.good().length() - 4));
    }

    /** What an undone BATCH did is used again, within one try too. */
    private static void batchesUndone() {
        Tape tape = new Tape().add(1).add(3, 0, 0, 0, 5).add(8, 0, 0).add(11, 0, -1, 0, 0);
        for (int batch = 0; batch < 18; batch++) {
            repeat(tape.add(20), 39, 12, 0, 0, 0, 0);
            tape.add(14, 1, 0).add(21);
        }
        Office office = new Office();
        String bytes = tape.bad();
        Tape.type(office, bytes);
        long before = made();
        int first = office.takeIn();
        long inOne = made() - before;
        // 40 FACTS, what a LOG of that length needs, and few things more: not the 700 FACTS that were undone
        check.due("12 little is made by one try (" + inOne + ")", inOne <= 24000 ? 1 : 0, 1);
        check.due("39 the first try", first, -10 - (bytes.length() - 4));

        Office again = new Office();
        Tape.type(again, bytes);
        tryAgain("batches undone", again, first);
    }

    /** Offices of the same sort, turn about: two are in use, and no more are made. */
    private static void growing() {
        Office office = new Office();
        String good = office().good();
        int[] answers = new int[8];
        long before = 0;
        for (int i = 0; i < answers.length; i++) {
            // the first try fills one office, the second one the other
            before = i == 2 ? made() : before;
            Tape.type(office, good);
            answers[i] = office.takeIn();
        }
        long bytes = made() - before;
        check.due("12 little is made turn about (" + bytes + ")", bytes <= LITTLE ? 1 : 0, 1);
        for (int answer : answers) {
            check.due("39 turn about", answer, office().acts);
        }
    }

    private static void faultsOfTexts() {
        Office office = new Office();
        office.person();
        office.policy(0, 0, 0, 5);
        StringBuilder text = new StringBuilder("in any unless ");
        while (text.length() < 384) {
            text.append("not sort1or ");
        }
        Tape.type(office, text.toString());
        int[] answers = new int[400];
        answers[0] = office.clauses(0);
        long before = made();
        for (int i = 1; i < answers.length; i++) {
            answers[i] = office.clauses(0);
        }
        long bytes = made() - before;
        check.due("12 little is made by faults (" + bytes + ")", bytes <= LITTLE ? 1 : 0, 1);
        for (int answer : answers) {
            check.due("8 the fault is at its end", answer, -10 - text.length());
        }
        office.type(0, 0);
        Tape.type(office, "in any unless not sort1or late 2;by loss;");
        check.due("8 a text behind faults", office.clauses(0), 2);
        check.due("31 told back", tell(office, 0), "in any unless not sort 1 or late 2;\nby loss;\n");
    }

    // ---- what is answered

    private static String tell(Office office, int policy) {
        office.tell(policy, office.count(4));
        return said(office);
    }

    private static String said(Office office) {
        StringBuilder said = new StringBuilder();
        int b = office.letter(0);
        for (int i = 1; b >= 0; i++) {
            said.append((char) b);
            b = office.letter(i);
        }
        return said.toString();
    }

    /** Seven calls that look at what an office has and has met. */
    private static String look(Office office) {
        int now = office.count(4);
        return now + " " + office.owed(0, 70, now) + " " + office.say() + " " + office.used(0, 0, now) + " "
                + office.reserved(2, 0, now) + " " + office.of(0, 5) + " " + office.tell(0, now);
    }

    private static Office holding(String bytes) {
        Office office = new Office(MANY);
        Tape.type(office, bytes);
        office.takeIn();
        return office;
    }

    /** All that can be looked at, but FINDINGS and what THE TAPE has; too many calls for an office that goes on. */
    private static String all(Office office) {
        StringBuilder all = new StringBuilder();
        int now = office.count(4);
        for (int what = 0; what <= 7; what++) {
            all.append(office.count(what)).append(' ');
        }
        for (int p = 0; p < office.count(1); p++) {
            all.append('\n').append(tell(office, p));
            for (int year = 0; year < 3; year++) {
                all.append(office.used(p, year, now)).append(' ').append(office.left(p, year, now)).append(' ');
            }
        }
        for (int c = 0; c < office.count(3); c++) {
            all.append('\n').append(office.owed(c, 900, now)).append(' ').append(office.finding()).append(' ');
            office.say();
            all.append(said(office));
            for (int what = 0; what <= 6; what++) {
                all.append(office.of(c, what)).append(' ');
            }
            for (int i = 0; office.trace(i) >= 0; i++) {
                all.append(office.trace(i)).append(' ');
            }
        }
        office.write();
        return all.append('\n').append(Desk.numbers(said(office))).toString();
    }

    /** An office by acts, not by a TAPE. */
    private static Office byActs() {
        Office office = new Office(MANY);
        office.person();
        office.policy(0, 0, 0, 400);
        office.period(0, 0, 9000);
        Tape.type(office, "interest 500;year 800;");
        office.clauses(0);
        for (int i = 0; i < 3; i++) {
            office.loss(i % 2, 5 + i);
            office.item(i, i, 300 + i, 400);
            office.notify(0, -1, i, 10);
        }
        office.pay(0, 20, 100);
        office.reserve(0, 30, 2, 55);
        office.reserve(1, 30, 2, 66);
        office.batch();
        office.close(2, 11);
        office.end();
        return office;
    }

    private static void looksBehindEachTry() {
        Office office = byActs();
        String at = look(office);
        String tape = office().bad();
        Tape.type(office, tape);
        for (int i = 0; i < TRIES; i++) {
            check.due("39 try " + i, office.takeIn(), -10 - (tape.length() - 4));
            check.due("39 nothing changes by try " + i, look(office), at);
            check.due("41 findings behind try " + i, office.count(10), i + 1);
            check.due("41 the tape behind try " + i, office.count(8), tape.length());
        }
        check.due("39 the 41st", office.takeIn(), FULL);
    }

    private static void writtenBehindTries() {
        String log = logBehind(TRIES);
        check.due("39 in another office", all(holding(log)), all(byActs()));

        Office office = byActs();
        String at = look(office);
        Tape.type(office, otherOffice().bad());
        for (int i = 0; i < TRIES - 1; i++) {
            office.takeIn();
            check.due("39 nothing changes by try " + i, look(office), at);
        }
        office.type(0, 0);
        Tape.type(office, log);
        check.due("39 what was written behind tries", office.takeIn(), 19);
        check.due("39 it is the same office", look(office), at);
        check.due("41 the tape is empty", office.count(8), 0);
        check.due("39 it goes on", office.reserve(0, 70, 2, 5), 1);
        check.due("39 the 41st", office.takeIn(), FULL);
        check.due("39 nothing changes by that", office.of(0, 5), 3);
    }

    /** What is written behind so many tries: the same as ahead of them. */
    private static String logBehind(int tries) {
        Office office = byActs();
        office.write();
        String ahead = said(office);
        String tape = office().bad();
        Tape.type(office, tape);
        for (int i = 0; i < tries; i++) {
            check.due("39 try " + i, office.takeIn(), -10 - (tape.length() - 4));
        }
        office.write();
        check.due("38 as ahead of the tries", Desk.numbers(said(office)), Desk.numbers(ahead));
        return ahead;
    }

    /** Each time as if it were taken in by a new object, whatever was tried before. */
    private static void turnAbout() {
        String[] tapes = {office().good(), otherOffice().bad(), otherOffice().good(), things().bad(), office().bad(),
            new Tape().good(), new Tape().add(1).good(), new Tape().add(20).add(14, 0, 0).good()};
        for (int first = 0; first < tapes.length; first++) {
            for (int second = 0; second < tapes.length; second++) {
                Office office = new Office(MANY);
                String held = new Tape().good();
                for (int tape : new int[] {first, second, first, 0}) {
                    office.type(0, 0);
                    Tape.type(office, tapes[tape]);
                    int answer = office.takeIn();
                    held = answer >= 0 ? tapes[tape] : held;
                    office.undo();
                }
                Office due = holding(held);
                due.undo();
                check.due("39 tapes " + first + ", " + second + " turn about", all(office), all(due));
            }
        }
    }

    /** Nothing of what was there before shows in what is made of it. */
    private static void smallBehindGreat() {
        Office office = holding(office().good());
        office.type(0, 0);
        Tape.type(office, new Tape().good());
        check.due("39 nothing", office.takeIn(), 0);
        Office fresh = new Office(MANY);
        for (Office o : new Office[] {office, fresh}) {
            o.person();
            for (int p = 0; p < 3; p++) {
                o.policy(p, 0, 0, 900);
                o.period(p, 0, 5000);
            }
            for (int l = 0; l < 5; l++) {
                o.loss(l, 30);
                o.part(2 * l, 10);
                o.item(2 * l, 1, 70, 80);
                o.notify(l % 3, -1, 2 * l + 1, 40);
                o.notify(l % 3, -1, 2 * l, 40);
                o.close(l, 41);
                o.correct(l + 1, 41, 0, 0, 9, 41);
            }
        }
        check.due("39 an office like a new one", all(office), all(fresh));
        check.due("39 no findings but those of its own", office.count(10) - fresh.count(10), 1);
    }
}
