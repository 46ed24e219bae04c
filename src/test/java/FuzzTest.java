import java.lang.reflect.Method;
import java.util.ArrayList;
import java.util.List;
import java.util.Random;

/** Runs of calls drawn at random (always the same ones): ClaimsOffice answers as the Model does. */
public final class FuzzTest {
    private static final int RUNS = 1500;
    private static final Check check = new Check();
    /** What earlier runs wrote: a run takes some of these in, too. */
    private static final List<String> LOGS = new ArrayList<>();

    private final Random random;
    private final ClaimsOffice office = new ClaimsOffice();
    private final Model model = new Model();
    private final List<String> calls = new ArrayList<>();
    private final int firstDay;
    private final int small;
    private final boolean friendly;
    private int types;
    private boolean wrong;

    private FuzzTest(long seed) {
        random = new Random(seed);
        firstDay = random.nextInt(3) == 0 ? 0 : random.nextInt(3000);
        small = new int[] {50, 1000, 100000, 1000000000}[random.nextInt(4)];
        friendly = random.nextInt(3) != 0;
    }

    public static void main(String[] args) throws Exception {
        long first = args.length > 0 ? Long.parseLong(args[0]) : 1;
        long runs = args.length > 1 ? Long.parseLong(args[1]) : RUNS;
        for (long seed = first; seed < first + runs; seed++) {
            FuzzTest test = new FuzzTest(seed);
            test.play();
            check.due("run " + seed, test.wrong ? 1 : 0, 0);
        }
        check.done();
    }

    private int pick(int below) {
        return random.nextInt(Math.max(below, 1));
    }

    private boolean rarely() {
        return pick(25) == 0;
    }

    // ---- a call on both

    private long call(String name, Object... args) throws Exception {
        Class<?>[] types = new Class<?>[args.length];
        for (int i = 0; i < args.length; i++) {
            types[i] = args[i] instanceof Long ? long.class : int.class;
        }
        Method real = ClaimsOffice.class.getMethod(name, types);
        Method due = Model.class.getMethod(name, types);
        StringBuilder text = new StringBuilder(name).append('(');
        for (Object a : args) {
            text.append(text.charAt(text.length() - 1) == '(' ? "" : ", ").append(a);
        }
        text.append(')');
        long got;
        try {
            got = ((Number) real.invoke(office, args)).longValue();
        } catch (java.lang.reflect.InvocationTargetException e) {
            e.getCause().printStackTrace();
            got = -4711;
        }
        long want = ((Number) due.invoke(model, args)).longValue();
        calls.add(text + " = " + want);
        if (got != want && !wrong) {
            wrong = true;
            calls.forEach(System.out::println);
            System.out.println("   but answered " + got);
        }
        return want;
    }

    // ---- numbers that often are as told

    private int day(int from) {
        if (rarely()) {
            return new int[] {-1, 10949, 10950, 0, Integer.MAX_VALUE, Integer.MIN_VALUE}[pick(6)];
        }
        return from + (pick(3) == 0 ? pick(400) : pick(12));
    }

    private long money() {
        if (rarely()) {
            return new long[] {-1, 0, 1000000000000L, 1000000000001L, Long.MAX_VALUE, Long.MIN_VALUE}[pick(6)];
        }
        return pick(6) == 0 ? pick(4) : pick(small);
    }

    private int of(int count) {
        return rarely() ? new int[] {-1, count, Integer.MAX_VALUE, Integer.MIN_VALUE}[pick(4)] : pick(count);
    }

    private int moment() {
        int now = model.o.now;
        return pick(3) == 0 ? of(now + 2) : now;
    }

    // ---- what a run is made of

    private void play() throws Exception {
        int length = 40 + pick(472);
        types = 0;
        if (pick(8) != 0) {
            begin();
        }
        while (calls.size() - types < length && !wrong) {
            switch (pick(20)) {
                case 0: case 1: told(); break;
                case 2: losses(); break;
                case 3: case 4: losses(); notice(); break;
                case 5: case 6: case 7: case 8: case 9: case 10: fact(); fact(); break;
                case 11: batches(); break;
                case 12: case 13: case 14: look(); break;
                case 15: asks(); break;
                case 16: text(); break;
                case 17: log(); break;
                default: fact();
            }
        }
        if (!wrong) {
            everything();
        }
    }

    private void begin() throws Exception {
        call("person");
        int policies = 1 + pick(5);
        for (int i = 0; i < policies; i++) {
            call("policy", i > 0 && pick(4) == 0 ? 6 : pick(6), 0, firstDay + pick(30), firstDay + 400 + pick(800));
        }
        for (Model.Policy p : model.o.policies) {
            for (int y = p.first / 365; y <= p.last / 365 && p.kind != 6; y++) {
                if (!rarely()) {
                    call("period", p.number, y, pick(2) == 0 ? money() : (long) small * (1 + pick(6)));
                }
            }
            if (p.kind == 6) {
                call("bundle", p.number, 0, pick(policies));
                call("bundle", p.number, 1, pick(policies));
            } else if (friendly || pick(2) == 0) {
                clausesOf(p.number, goodText());
            }
        }
    }

    private void told() throws Exception {
        int policies = model.o.policies.size();
        switch (pick(8)) {
            case 0: call("person"); break;
            case 1: call("rank", of(6), of(10)); break;
            case 2:
                call("policy", of(7), of(model.o.persons), day(firstDay), day(firstDay + 300));
                break;
            case 3: call("bundle", of(policies), of(4), pick(5) == 0 ? -1 : of(policies)); break;
            case 4: call("period", of(policies), firstDay / 365 + pick(4) - (rarely() ? 3 : 0), money()); break;
            case 5: call("shareRule", of(policies), of(3)); break;
            default: clausesOf(of(policies), goodText());
        }
    }

    private void losses() throws Exception {
        int known = model.o.losses.size();
        if (known > 0 && pick(4) == 0) {
            call("part", pick(2) == 0 ? known - 1 : of(known), pick(5) == 0 ? 100 : of(101));
            return;
        }
        call("loss", of(5), day(firstDay + pick(pick(3) == 0 ? 500 : 60)));
        for (int i = pick(4); i > 0; i--) {
            long amount = money();
            long value = pick(2) == 0 ? money() : amount + pick(small);
            call("item", pick(6) == 0 ? of(known + 1) : known, pick(3) == 0 ? 3 : of(10), amount, value);
        }
    }

    private void notice() throws Exception {
        int known = model.o.losses.size();
        int loss = pick(3) == 0 ? of(known) : known - 1;
        int policy = of(model.o.policies.size());
        boolean bundle = policy >= 0 && policy < model.o.policies.size() && model.o.policies.get(policy).kind == 6;
        int place = bundle != rarely() ? pick(3) == 0 ? of(4) : pick(2) : -1;
        int from = loss >= 0 && loss < known ? model.o.losses.get(loss).day : firstDay;
        int cases = model.o.cases.size();
        if (cases > 0) {
            from = Math.max(from, model.o.cases.get(cases - 1).notice);
        }
        call("notify", policy, place, loss, rarely() ? day(from) : from + pick(4));
    }

    private void fact() throws Exception {
        int c = pick(3) == 0 ? of(model.o.cases.size()) : Math.max(0, model.o.cases.size() - 1 - pick(3));
        int from = firstDay;
        Model.Case at = c >= 0 && c < model.o.cases.size() ? model.o.cases.get(c) : null;
        if (at != null) {
            from = at.facts.isEmpty() ? at.notice : at.facts.get(at.facts.size() - 1).day;
        }
        int day = rarely() ? from - 1 : day(from);
        switch (pick(12)) {
            case 0: call("reserve", c, day, of(3), money()); break;
            case 1: call("close", c, day); break;
            case 2: call("reopen", c, day, of(3)); break;
            case 3: call("correct", c, day, of(3), of(2), money(), day(Math.max(from - 20, 0))); break;
            case 4: case 5: call("share", c, day, 1 + of(5), money()); break;
            case 6: call("salvage", c, day, money()); break;
            case 7: call("recourse", c, day, (long) pick(50)); break;
            default: pay(c, at, day);
        }
    }

    private void pay(int c, Model.Case at, int day) throws Exception {
        long owed = at != null && day >= at.notice && day < 10950 && pick(4) != 0
                ? call("owed", c, day, model.o.now) : money();
        long cents = pick(6) == 0 || owed <= 0 ? money() : owed - (pick(3) == 0 ? 0 : random.nextLong(owed));
        call("pay", c, day, pick(5) == 0 ? cents + 1 : cents);
        if (pick(6) == 0 && at != null) {
            call("close", c, day);
        }
    }

    private void batches() throws Exception {
        call("batch");
        for (int i = pick(rarely() ? 70 : 5); i > 0; i--) {
            fact();
        }
        switch (pick(6)) {
            case 0: told(); break;
            case 1: asks(); break;
            default:
        }
        call(pick(4) == 0 ? "undo" : "end");
        if (rarely()) {
            call(pick(2) == 0 ? "undo" : "end");
        }
    }

    private void look() throws Exception {
        int c = of(model.o.cases.size());
        int from = c >= 0 && c < model.o.cases.size() ? model.o.cases.get(c).notice : firstDay;
        call("owed", c, rarely() ? from - 1 : day(from + pick(40)), moment());
        seeAll();
    }

    private void seeAll() throws Exception {
        int known = calls.size();
        call("finding");
        for (int i = -1; i < 14 && !wrong; i++) {
            call("row", i, 0);
            call("row", i, 1);
            call("cents", i);
        }
        for (int i = -1; i < 201 && !wrong; i++) {
            call("trace", i);
        }
        call("say");
        readAll();
        forget(known);
    }

    /** Such calls do not count, though they go beyond 512: they change nothing, and just a wrong one is told of. */
    private void forget(int known) {
        while (calls.size() > known && !wrong) {
            calls.remove(calls.size() - 1);
        }
    }

    private String readAll() throws Exception {
        int known = calls.size();
        int size = (int) call("count", 9);
        StringBuilder said = new StringBuilder();
        for (int i = -1; i <= size && !wrong; i++) {
            long b = call("letter", i);
            if (i >= 0 && i < size) {
                said.append((char) b);
            }
        }
        forget(known);
        return said.toString();
    }

    private void asks() throws Exception {
        int year = firstDay / 365 + pick(4);
        switch (pick(12)) {
            case 0: call("used", of(model.o.policies.size()), year, moment()); break;
            case 1: call("left", of(model.o.policies.size()), year, moment()); break;
            case 2: call("reserved", of(3), year, moment()); break;
            case 3: case 4: call("run", of(2), year, pick(3), moment()); break;
            case 5: case 6: call("factor", of(2), of(3), of(30), of(2), moment()); break;
            case 7: call("of", of(model.o.cases.size()), of(7)); break;
            case 8: call("count", of(11)); break;
            case 9: call("row", of(5), of(2)); break;
            default:
                call("tell", of(model.o.policies.size()), moment());
                readAll();
        }
    }

    private void everything() throws Exception {
        for (int i = -1; i < 12 && !wrong; i++) {
            call("count", i);
        }
        int now = model.o.now;
        for (Model.Case c : model.o.cases) {
            for (int what = -1; what < 8 && !wrong; what++) {
                call("of", c.number, what);
            }
            call("owed", c.number, Math.min(10949, c.notice + pick(800)), now);
            seeAll();
        }
        for (int y = 0; y < 30 && !wrong; y++) {
            call("reserved", y % 3, y, now);
            call("factor", y % 2, pick(3), y, pick(2), now);
            for (Model.Policy p : model.o.policies) {
                call("used", p.number, y, now);
                call("left", p.number, y, now);
            }
        }
        if (call("write") >= 0) {
            LOGS.add(readAll());
        }
    }

    // ---- texts of clauses

    private void clausesOf(int policy, String text) throws Exception {
        type(text);
        call("clauses", policy);
    }

    private void type(String text) throws Exception {
        call("type", 0L, 0);
        for (int i = 0; i < text.length(); i += 8) {
            String piece = text.substring(i, Math.min(i + 8, text.length()));
            long w = random.nextLong() << 8;
            for (int k = 0; k < piece.length(); k++) {
                w = w << 8 | piece.charAt(k);
            }
            call("type", w, piece.length());
            types++;
        }
        if (rarely()) {
            call("type", random.nextLong(), new int[] {-1, 9, 3}[pick(3)]);
        }
    }

    private String kind() {
        return Model.KINDS.get(pick(6));
    }

    private String condition(int depth) {
        int shape = depth <= 0 ? 5 : pick(8);
        switch (shape) {
            case 0: return condition(depth - 1) + " and " + condition(depth - 1);
            case 1: return condition(depth - 1) + " or " + condition(depth - 1);
            case 2: return "not " + condition(depth - 1);
            case 3: return "(" + condition(depth - 1) + ")";
            case 4: return "not(" + condition(depth - 1) + " )";
            default:
                switch (pick(5)) {
                    case 0: return "amount " + pick(2 * small);
                    case 1: return "items" + pick(4);
                    case 2: return "late 0" + pick(5);
                    case 3: return "sort " + pick(10);
                    default: return "is " + kind();
                }
        }
    }

    private String clause() {
        String n = " " + (pick(3) == 0 ? pick(1000000000) : pick(2 * small));
        switch (pick(13)) {
            case 0: return "item" + n;
            case 1: return "loss" + n;
            case 2: case 3: return "year" + n;
            case 4: return "own loss " + pick(small / 2);
            case 5: return "own year " + pick(small);
            case 6: return "wait " + pick(30);
            case 7: return "average";
            case 8: return "interest " + (pick(8) == 0 ? 999999999 : pick(30000));
            case 9: return "by " + (pick(3) == 0 ? "notice" : "loss");
            default:
                return (pick(friendly ? 6 : 2) != 0 ? "in " : "out ") + kind()
                        + (pick(2) == 0 ? "" : " unless " + condition(pick(4)));
        }
    }

    private String goodText() {
        StringBuilder b = new StringBuilder(friendly ? "in any;" : "");
        for (int i = pick(6); i > 0 && b.length() < 200; i--) {
            b.append(clause()).append(pick(2) == 0 ? ";" : " ;\n ");
        }
        return b.toString();
    }

    private void text() throws Exception {
        StringBuilder b = new StringBuilder(goodText());
        int deep = pick(4) == 0 ? 18 + pick(5) : 0;
        if (deep > 0) {
            b.append("in any unless ");
            for (int i = 0; i < deep; i++) {
                b.append(pick(2) == 0 ? "not " : "(");
            }
            b.append("is any");
            for (int i = b.length(); i > 0; i--) {
                b.append(b.charAt(i - 1) == '(' ? ")" : "");
            }
            b.append(';');
        }
        for (int i = pick(3); i > 0 && b.length() > 0; i--) {
            int at = pick(b.length());
            switch (pick(4)) {
                case 0: b.deleteCharAt(at); break;
                case 1: b.setCharAt(at, (char) pick(256)); break;
                case 2: b.insert(at, "0123456789".substring(pick(8))); break;
                default: b.insert(at, new String[] {" or", ";", "(", ") ", "and ", "not ", " x", "is"}[pick(8)]);
            }
        }
        int policy = of(model.o.policies.size());
        clausesOf(policy, b.toString());
        call("tell", policy, model.o.now);
        readAll();
    }

    // ---- the log

    private void log() throws Exception {
        if (call("write") < 0) {
            return;
        }
        boolean others = pick(2) == 0 && !LOGS.isEmpty();
        StringBuilder b = new StringBuilder(others ? LOGS.get(pick(LOGS.size())) : readAll());
        if (b.length() > (others ? 3000 : 1200)) {
            return;
        }
        int changes = pick(3) == 0 ? 1 + pick(2) : 0;
        for (int i = 0; i < changes; i++) {
            int at = pick(b.length());
            switch (pick(5)) {
                case 0: b.setLength(at); break;
                case 1: b.insert(at, (char) pick(256)); break;
                case 2: b.setCharAt(at, (char) pick(256)); break;
                case 3: b.insert(at, (char) 128); break;
                default: b.insert(pick(2) == 0 ? 0 : at, (char) (40 + 2 * pick(3)));
            }
            if (b.length() == 0) {
                break;
            }
        }
        if (changes > 0 && pick(2) == 0 && b.length() >= 4) {
            List<Integer> bytes = new ArrayList<>();
            b.substring(0, b.length() - 4).chars().forEach(bytes::add);
            b.setLength(0);
            Model.withCheck(bytes).forEach(v -> b.append((char) (int) v));
        }
        type(b.toString());
        call("takeIn");
        call("count", 4);
        call("count", 8);
    }
}
