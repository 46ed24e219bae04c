import java.math.BigInteger;
import java.util.ArrayDeque;
import java.util.ArrayList;
import java.util.Arrays;
import java.util.Comparator;
import java.util.List;
import java.util.TreeMap;

/**
 * The document said a second time, as plainly as can be and with all of Java: bodies are real classes, days are gone
 * over one by one, numbers are as big as they like. FuzzTest holds ClaimsOffice against it, call by call.
 */
final class Model {
    static final int NONE = -1, BAD = -2, STATE = -3, DAY = -4, LATE = -5, MUCH = -6, FULL = -7, HELD = -8;
    static final long NO_ANSWER = Long.MIN_VALUE;
    static final BigInteger LIMIT = BigInteger.ONE.shiftLeft(62);

    static final class Finding extends RuntimeException {
        private static final long serialVersionUID = 1;
        final int number;

        Finding(int number) {
            super(null, null, false, false);
            this.number = number;
        }
    }

    // ---- bodies

    static class Losses {
        final List<long[]> items;
        final Work work;

        Losses(List<long[]> items, Work work) {
            this.items = items;
            this.work = work;
        }

        int kind() {
            return work.kindOfBase;
        }

        long worth(long n) {
            work.mark(9, 4);
            return items.stream().mapToLong(i -> Math.min(i[1], n)).sum();
        }

        boolean is(int kind) {
            work.mark(9, 5);
            return kind() == kind;
        }
    }

    static class Damage extends Losses {
        Damage(List<long[]> items, Work work) {
            super(items, work);
        }

        @Override
        long worth(long n) {
            work.mark(10, 4);
            return items.stream().mapToLong(i -> Math.min(Math.min(i[1], i[2]), n)).sum();
        }
    }

    static final class Theft extends Damage {
        Theft(List<long[]> items, Work work) {
            super(items, work);
        }

        @Override
        long worth(long n) {
            work.mark(11, 4);
            long w = super.worth(n);
            return w - w % 100;
        }
    }

    static final class Storm extends Damage {
        Storm(List<long[]> items, Work work) {
            super(items, work);
        }

        @Override
        boolean is(int kind) {
            work.mark(12, 5);
            if (kind == 1 && items.stream().anyMatch(i -> i[0] == 3)) {
                return true;
            }
            return super.is(kind);
        }
    }

    static final class Third extends Losses {
        Third(List<long[]> items, Work work) {
            super(items, work);
        }
    }

    static final class PartOf extends Losses {
        final Losses whole;
        final int hundredths;

        PartOf(Losses whole, int hundredths, Work work) {
            super(whole.items, work);
            this.whole = whole;
            this.hundredths = hundredths;
        }

        @Override
        long worth(long n) {
            work.mark(14, 4);
            return whole.worth(n) * hundredths / 100;
        }

        @Override
        boolean is(int kind) {
            work.mark(14, 5);
            return whole.is(kind);
        }
    }

    static class Cover {
        final Work work;

        Cover(Work work) {
            this.work = work;
        }

        boolean covers(Losses l) {
            work.mark(1, 0);
            return false;
        }

        int waits(Losses l) {
            work.mark(0, 1);
            return 0;
        }

        boolean averages(Losses l) {
            work.mark(0, 2);
            return false;
        }

        int self(Losses l) {
            work.mark(1, 3);
            return 0;
        }
    }

    static class Property extends Cover {
        Property(Work work) {
            super(work);
        }

        @Override
        boolean covers(Losses l) {
            work.mark(2, 0);
            return l.is(0) || super.covers(l);
        }

        @Override
        boolean averages(Losses l) {
            work.mark(2, 2);
            return true;
        }
    }

    static class Dwelling extends Property {
        Dwelling(Work work) {
            super(work);
        }

        @Override
        boolean covers(Losses l) {
            work.mark(3, 0);
            return l.is(1) || l.is(3) || super.covers(l);
        }
    }

    static final class Contents extends Dwelling {
        Contents(Work work) {
            super(work);
        }

        @Override
        boolean covers(Losses l) {
            work.mark(4, 0);
            return l.is(2) || super.covers(l);
        }

        @Override
        int waits(Losses l) {
            work.mark(4, 1);
            return l.is(2) ? 3 : 0;
        }

        @Override
        boolean averages(Losses l) {
            work.mark(4, 2);
            return !l.is(2) && super.averages(l);
        }
    }

    static final class Crop extends Property {
        Crop(Work work) {
            super(work);
        }

        @Override
        boolean covers(Losses l) {
            work.mark(5, 0);
            return l.is(3);
        }

        @Override
        int waits(Losses l) {
            work.mark(5, 1);
            return 14;
        }

        @Override
        boolean averages(Losses l) {
            work.mark(5, 2);
            return false;
        }
    }

    static class Car extends Cover {
        Car(Work work) {
            super(work);
        }

        @Override
        boolean covers(Losses l) {
            work.mark(6, 0);
            return l.is(0) || l.is(2) || l.is(4) || super.covers(l);
        }

        @Override
        int self(Losses l) {
            work.mark(6, 3);
            return l.is(2) ? 10 : super.self(l);
        }
    }

    static final class Transport extends Car {
        Transport(Work work) {
            super(work);
        }

        @Override
        boolean covers(Losses l) {
            work.mark(7, 0);
            if (l.is(4)) {
                return false;
            }
            if (l.is(1)) {
                return true;
            }
            return super.covers(l);
        }

        @Override
        int waits(Losses l) {
            work.mark(7, 1);
            return l.is(1) ? 2 : 0;
        }

        @Override
        int self(Losses l) {
            work.mark(7, 3);
            return super.self(l) + 5;
        }
    }

    static final class Liability extends Cover {
        Liability(Work work) {
            super(work);
        }

        @Override
        boolean covers(Losses l) {
            work.mark(8, 0);
            if (!(l instanceof Third)) {
                throw new Finding(2);
            }
            return !l.items.isEmpty();
        }
    }

    // ---- clauses

    /** A clause, or a condition: words, a number, pieces. */
    static final class Piece {
        String word = "";
        String kind = "";
        long number = -1;
        List<Piece> pieces = new ArrayList<>();

        boolean holds(Work w) {
            switch (word) {
                case "or":
                    for (Piece p : pieces) {
                        if (p.holds(w)) {
                            return true;
                        }
                    }
                    return false;
                case "and":
                    for (Piece p : pieces) {
                        if (!p.holds(w)) {
                            return false;
                        }
                    }
                    return true;
                case "not": return !pieces.get(0).holds(w);
                case "amount": return w.losses.items.stream().mapToLong(i -> i[1]).sum() > number;
                case "items": return w.losses.items.size() > number;
                case "late": return w.c.notice - w.c.loss.day > number;
                case "sort": return w.losses.items.stream().anyMatch(i -> i[0] == number);
                case "is": return kind.equals("any") || w.losses.is(KINDS.indexOf(kind));
                default: throw new IllegalStateException(word);
            }
        }

        String text() {
            switch (word) {
                case "or": return join(" or ", false);
                case "and": return join(" and ", true);
                case "not": {
                    Piece p = pieces.get(0);
                    boolean brackets = p.word.equals("and") || p.word.equals("or");
                    return "not " + (brackets ? "(" + p.text() + ")" : p.text());
                }
                case "in":
                case "out": return word + " " + kind + (pieces.isEmpty() ? "" : " unless " + pieces.get(0).text());
                case "by": return "by " + kind;
                case "average": return word;
                case "is": return "is " + kind;
                default: return word + " " + number;
            }
        }

        private String join(String between, boolean bracketOr) {
            List<String> texts = new ArrayList<>();
            for (Piece p : pieces) {
                texts.add(bracketOr && p.word.equals("or") ? "(" + p.text() + ")" : p.text());
            }
            return String.join(between, texts);
        }
    }

    static final List<String> KINDS = Arrays.asList("fire", "water", "theft", "storm", "third", "any");

    /** The FAULT by a machine with a stack of what is open; -1: there is none. */
    static int fault(String text) {
        ArrayDeque<Character> open = new ArrayDeque<>();
        String state = "clause";
        int clauses = 0;
        int i = 0;
        while (i < text.length()) {
            char c = text.charAt(i);
            if (c == ' ' || c == '\n') {
                i++;
                continue;
            }
            int from = i;
            String token;
            if (c >= 'a' && c <= 'z') {
                while (i < text.length() && text.charAt(i) >= 'a' && text.charAt(i) <= 'z') {
                    i++;
                }
                token = text.substring(from, i);
            } else if (c >= '0' && c <= '9') {
                while (i < text.length() && text.charAt(i) >= '0' && text.charAt(i) <= '9') {
                    i++;
                }
                token = "00";
            } else {
                i++;
                token = "" + c;
            }
            if (state.equals("clause") && ++clauses > 30) {
                return from;
            }
            state = next(state, token, open);
            if (state == null) {
                return from;
            }
            if (token.equals("00") && i - from > 9) {
                return from + 9;
            }
        }
        return state.equals("clause") ? -1 : text.length();
    }

    private static String next(String state, String t, ArrayDeque<Character> open) {
        switch (state) {
            case "clause":
                switch (t) {
                    case "in": case "out": return "kind";
                    case "item": case "loss": case "year": case "wait": case "interest": return "number";
                    case "own": return "own";
                    case "by": return "by";
                    case "average": return "stop";
                    default: return null;
                }
            case "kind": return KINDS.contains(t) ? "unless" : null;
            case "unless": return t.equals("unless") ? "cond" : t.equals(";") ? "clause" : null;
            case "own": return t.equals("loss") || t.equals("year") ? "number" : null;
            case "by": return t.equals("loss") || t.equals("notice") ? "stop" : null;
            case "number": return t.equals("00") ? "stop" : null;
            case "stop": return t.equals(";") ? "clause" : null;
            case "cond":
                switch (t) {
                    case "not": case "(":
                        open.push(t.charAt(0));
                        return open.size() > 20 ? null : "cond";
                    case "amount": case "items": case "late": case "sort": return "testnumber";
                    case "is": return "testkind";
                    default: return null;
                }
            case "testnumber": return t.equals("00") ? ended(open) : null;
            case "testkind": return KINDS.contains(t) ? ended(open) : null;
            default:
                switch (t) {
                    case "and": case "or": return "cond";
                    case ";": return open.isEmpty() ? "clause" : null;
                    case ")":
                        if (open.isEmpty()) {
                            return null;
                        }
                        open.pop();
                        return ended(open);
                    default: return null;
                }
        }
    }

    private static String ended(ArrayDeque<Character> open) {
        while (!open.isEmpty() && open.peek() == 'n') {
            open.pop();
        }
        return "behind";
    }

    /** Reads a text without FAULT. */
    static List<Piece> read(String text) {
        List<String> t = new ArrayList<>();
        java.util.regex.Matcher m = java.util.regex.Pattern.compile("[a-z]+|[0-9]+|[();]").matcher(text);
        while (m.find()) {
            t.add(m.group());
        }
        List<Piece> all = new ArrayList<>();
        int[] at = {0};
        while (at[0] < t.size()) {
            Piece p = new Piece();
            p.word = t.get(at[0]++);
            if (p.word.equals("own")) {
                p.word = "own " + t.get(at[0]++);
            }
            if (Arrays.asList("in", "out", "by").contains(p.word)) {
                p.kind = t.get(at[0]++);
            } else if (!p.word.equals("average")) {
                p.number = Long.parseLong(t.get(at[0]++));
            }
            if (t.get(at[0]).equals("unless")) {
                at[0]++;
                p.pieces.add(chain("or", t, at));
            }
            at[0]++;
            all.add(p);
        }
        return all;
    }

    private static Piece chain(String word, List<String> t, int[] at) {
        Piece p = new Piece();
        p.word = word;
        p.pieces.add(word.equals("or") ? chain("and", t, at) : not(t, at));
        while (t.get(at[0]).equals(word)) {
            at[0]++;
            p.pieces.add(word.equals("or") ? chain("and", t, at) : not(t, at));
        }
        return p.pieces.size() == 1 ? p.pieces.get(0) : p;
    }

    private static Piece not(List<String> t, int[] at) {
        Piece p = new Piece();
        p.word = t.get(at[0]++);
        if (p.word.equals("not")) {
            p.pieces.add(not(t, at));
            return p;
        }
        if (p.word.equals("(")) {
            Piece within = chain("or", t, at);
            at[0]++;
            return within;
        }
        if (p.word.equals("is")) {
            p.kind = t.get(at[0]++);
        } else {
            p.number = Long.parseLong(t.get(at[0]++));
        }
        return p;
    }

    // ---- what an office has

    static final class Policy {
        int number, kind, first, last;
        final List<TreeMap<Integer, Integer>> places = new ArrayList<>();
        final TreeMap<Integer, TreeMap<Integer, Long>> sums = new TreeMap<>();
        final TreeMap<Integer, List<Piece>> clauses = new TreeMap<>();
        final TreeMap<Integer, Integer> rules = new TreeMap<>();

        List<Piece> clausesAt(int moment) {
            return clauses.floorEntry(moment) == null ? new ArrayList<>() : clauses.floorEntry(moment).getValue();
        }
    }

    static final class Loss {
        int number, kind, day, hundredths;
        Loss whole;
        final List<long[]> items = new ArrayList<>();

        Loss base() {
            return whole == null ? this : whole.base();
        }

        int parts() {
            return whole == null ? 0 : 1 + whole.parts();
        }
    }

    static final class Fact {
        int act, day, moment;
        long[] args;
        long cents, interest;
    }

    static final class Case {
        int number, place, notice, moment;
        Policy policy;
        Loss loss;
        List<Fact> facts = new ArrayList<>();

        boolean open(int moment, int day) {
            boolean open = true;
            for (Fact f : facts) {
                if (f.moment <= moment && f.day <= day && (f.act == 14 || f.act == 15)) {
                    open = f.act == 15;
                }
            }
            return open;
        }

        long sum(int act, int moment, int day) {
            return facts.stream().filter(f -> f.act == act && f.moment <= moment && f.day <= day)
                    .mapToLong(f -> f.cents).sum();
        }

        long interest(int moment) {
            return facts.stream().filter(f -> f.moment <= moment).mapToLong(f -> f.interest).sum();
        }
    }

    static final class Row {
        int code, argument;
        long cents;
    }

    final class Work {
        final Case c;
        final int day, moment;
        final List<Row> rows = new ArrayList<>();
        final List<Integer> trace = new ArrayList<>();
        int finding;
        int kindOfBase;
        boolean over;
        Policy cover;
        Losses losses;
        List<Piece> clauses;
        long s;

        Work(Case c, int day, int moment) {
            this.c = c;
            this.day = day;
            this.moment = moment;
        }

        void mark(int owner, int act) {
            if (trace.size() < 200) {
                trace.add(10 * owner + act);
            }
        }

        long number(String word, long otherwise) {
            long n = otherwise;
            for (Piece p : clauses) {
                n = p.word.equals(word) ? p.number : n;
            }
            return n;
        }

        boolean has(String word) {
            return clauses.stream().anyMatch(p -> p.word.equals(word));
        }

        void row(int code, int argument, long cents) {
            s += cents;
            if (code <= 2 || cents != 0) {
                Row r = new Row();
                r.code = code;
                r.argument = argument;
                r.cents = cents;
                rows.add(r);
            }
        }

        void end(int code, int argument) {
            row(code, argument, -s);
            over = true;
        }

        long mulDiv(long a, long b, long c) {
            BigInteger p = BigInteger.valueOf(a).multiply(BigInteger.valueOf(b));
            if (p.compareTo(LIMIT) > 0) {
                throw new Finding(5);
            }
            if (c == 0) {
                throw new Finding(4);
            }
            return p.divide(BigInteger.valueOf(c)).longValueExact();
        }

        Losses bodies(Loss l, List<long[]> items) {
            switch (l.kind) {
                case 2: return new Theft(items, this);
                case 3: return new Storm(items, this);
                case 4: return new Third(items, this);
                case 5: return new PartOf(bodies(l.whole, items), l.hundredths, this);
                default: return new Damage(items, this);
            }
        }

        Cover coverBodies() {
            switch (cover.kind) {
                case 0: return new Dwelling(this);
                case 1: return new Contents(this);
                case 2: return new Car(this);
                case 3: return new Liability(this);
                case 4: return new Crop(this);
                default: return new Transport(this);
            }
        }

        List<Fact> counting(int act) {
            List<Fact> l = new ArrayList<>();
            for (Fact f : c.facts) {
                if (f.act == act && f.moment <= moment && f.day <= day) {
                    l.add(f);
                }
            }
            return l;
        }

        List<long[]> corrected() {
            List<long[]> l = new ArrayList<>();
            List<long[]> told = c.loss.base().items;
            for (int i = 0; i < told.size(); i++) {
                long[] item = told.get(i).clone();
                for (int what = 0; what < 2; what++) {
                    final int item0 = i;
                    final int what0 = what;
                    Fact best = null;
                    for (Fact f : counting(16)) {
                        if (f.args[2] == item0 && f.args[3] == what0 && f.args[5] <= day
                                && (best == null || f.args[5] >= best.args[5])) {
                            best = f;
                        }
                    }
                    if (best != null) {
                        item[1 + what] = best.cents;
                    }
                }
                l.add(item);
            }
            return l;
        }

        void alone() {
            cover = o.coverOf(c, moment);
            if (cover == null) {
                throw new Finding(1);
            }
            int year = c.loss.day / 365;
            if (year < cover.first / 365 || year > cover.last / 365) {
                throw new Finding(3);
            }
            TreeMap<Integer, Long> told = cover.sums.get(year);
            if (told == null || told.floorEntry(moment) == null) {
                throw new Finding(1);
            }
            final long sum = told.floorEntry(moment).getValue();
            clauses = cover.clausesAt(moment);
            kindOfBase = c.loss.base().kind;
            losses = bodies(c.loss, corrected());
            Cover body = coverBodies();
            long worth = losses.worth(number("item", 1000000000000L));
            row(0, 0, worth);
            if (c.loss.day < cover.first || c.loss.day > cover.last) {
                end(1, -2);
                return;
            }
            boolean covered = body.covers(losses);
            int argument = -1;
            for (int i = 0; i < clauses.size(); i++) {
                Piece p = clauses.get(i);
                if (!p.word.equals("in") && !p.word.equals("out")) {
                    continue;
                }
                if (!p.kind.equals("any") && !losses.is(KINDS.indexOf(p.kind))) {
                    continue;
                }
                if (!p.pieces.isEmpty() && p.pieces.get(0).holds(this)) {
                    continue;
                }
                covered = p.word.equals("in");
                argument = i;
            }
            if (!covered) {
                end(1, argument);
                return;
            }
            long wait = Math.max(body.waits(losses), number("wait", 0));
            if (c.loss.day < cover.first + wait) {
                end(2, (int) wait);
                return;
            }
            if (body.averages(losses) || has("average")) {
                long values = losses.items.stream().mapToLong(i -> i[2]).sum();
                row(3, 0, Math.min(mulDiv(s, sum, values), s) - s);
            }
            int self = body.self(losses);
            row(4, self, -mulDiv(s, self, 100));
            row(5, 0, -Math.min(number("own loss", 0), s));
            if (has("loss")) {
                row(6, 0, Math.min(number("loss", 0), s) - s);
            }
            shared(worth);
        }

        void shared(long worth) {
            TreeMap<Integer, Long> alone = new TreeMap<>();
            for (Fact f : counting(17)) {
                alone.put((int) f.args[2], f.cents);
            }
            int others = alone.size();
            if (others == 0) {
                return;
            }
            alone.put(0, s);
            long all = alone.values().stream().mapToLong(v -> v).sum();
            long t = Math.min(worth, all);
            List<Integer> turns = new ArrayList<>(alone.keySet());
            turns.sort(Comparator.comparingInt((Integer k) -> o.rankAt(k, moment)).thenComparingInt(k -> k));
            TreeMap<Integer, Long> got = new TreeMap<>();
            for (int k : turns) {
                got.put(k, 0L);
            }
            int rule = cover.rules.floorEntry(moment) == null ? 0 : cover.rules.floorEntry(moment).getValue();
            if (rule == 0) {
                long rest = t;
                for (int k : turns) {
                    got.put(k, mulDiv(t, alone.get(k), all));
                    rest -= got.get(k);
                }
                while (rest > 0) {
                    for (int k : turns) {
                        if (rest > 0 && got.get(k) < alone.get(k)) {
                            got.put(k, got.get(k) + 1);
                            rest--;
                        }
                    }
                }
            } else if (rule == 1) {
                long rest = t;
                while (true) {
                    List<Integer> lacking = new ArrayList<>();
                    for (int k : turns) {
                        if (got.get(k) < alone.get(k)) {
                            lacking.add(k);
                        }
                    }
                    if (rest == 0 || lacking.isEmpty()) {
                        break;
                    }
                    long each = rest / lacking.size();
                    for (int k : lacking) {
                        long gives = each == 0 ? Math.min(1, rest) : Math.min(each, alone.get(k) - got.get(k));
                        got.put(k, got.get(k) + gives);
                        rest -= gives;
                    }
                }
            } else {
                long rest = t;
                for (int k : turns) {
                    got.put(k, Math.min(rest, alone.get(k)));
                    rest -= got.get(k);
                }
            }
            row(7, others, got.get(0) - s);
        }

        void laid() {
            if (!has("own year") && !has("year")) {
                return;
            }
            String by = "notice";
            for (Piece p : clauses) {
                by = p.word.equals("by") ? p.kind : by;
            }
            List<Case> order = new ArrayList<>();
            for (Case k : o.cases) {
                if (k.moment <= moment && k.notice <= day && o.coverOf(k, moment) == cover
                        && k.loss.day / 365 == c.loss.day / 365) {
                    order.add(k);
                }
            }
            if (by.equals("loss")) {
                List<Case> closed = new ArrayList<>(order);
                closed.removeIf(k -> k.open(moment, day));
                List<Case> open = new ArrayList<>(order);
                open.removeIf(k -> !k.open(moment, day));
                open.sort(Comparator.comparingInt((Case k) -> k.loss.day).thenComparingInt(k -> k.number));
                order = closed;
                order.addAll(open);
            }
            long own = number("own year", 0);
            long year = has("year") ? number("year", 0) : Long.MAX_VALUE;
            long row8 = 0;
            long row9 = 0;
            for (Case k : order) {
                long brings = s;
                if (k != c) {
                    Work w = new Work(k, day, moment);
                    w.guarded(false);
                    brings = w.over ? 0 : w.s;
                }
                long gives = Math.min(brings, own);
                own -= gives;
                long stays = Math.min(brings - gives, year);
                long beyond = brings - gives - stays;
                year -= stays;
                if (k == c) {
                    row8 = gives;
                    row9 = beyond;
                }
            }
            row(8, 0, -row8);
            row(9, 0, -row9);
        }

        void rest() {
            laid();
            row(10, 0, -Math.min(c.sum(18, moment, day), s));
            BigInteger days = BigInteger.ZERO;
            for (int d = c.notice; d < day; d++) {
                long paid = 0;
                for (Fact f : c.facts) {
                    if (f.act == 13 && f.moment <= moment && f.day < d) {
                        paid += f.cents - f.interest;
                    }
                }
                days = days.add(BigInteger.valueOf(Math.max(0, s - paid)));
            }
            row(11, 0, mulDiv(days.longValueExact(), number("interest", 0), 3650000));
            row(12, 0, -c.sum(13, moment, day));
        }

        void guarded(boolean whole) {
            try {
                alone();
                if (whole && !over) {
                    rest();
                }
            } catch (Finding f) {
                finding = f.number;
                over = true;
                met++;
            }
        }

        long total() {
            return rows.stream().mapToLong(r -> r.cents).sum();
        }
    }

    static final class Office {
        int persons, now, batches, tries;
        final int[] told = new int[8];
        final List<TreeMap<Integer, Integer>> ranks = new ArrayList<>();
        final List<Policy> policies = new ArrayList<>();
        final List<Loss> losses = new ArrayList<>();
        final List<Case> cases = new ArrayList<>();
        final List<long[]> log = new ArrayList<>();
        List<long[]> held;

        Office() {
            for (int i = 0; i < 6; i++) {
                ranks.add(new TreeMap<>());
            }
        }

        int rankAt(int insurer, int moment) {
            var e = ranks.get(insurer).floorEntry(moment);
            return e == null ? insurer : e.getValue();
        }

        Policy in(Policy bundle, int place, int moment) {
            var e = bundle.places.get(place).floorEntry(moment);
            return e == null || e.getValue() == NONE ? null : policies.get(e.getValue());
        }

        Policy coverOf(Case c, int moment) {
            Policy p = c.policy.kind == 6 ? in(c.policy, c.place, moment) : c.policy;
            while (p != null && p.kind == 6) {
                p = in(p, 0, moment);
            }
            return p;
        }

        boolean reaches(Policy from, Policy to) {
            if (from == to) {
                return true;
            }
            for (int k = 0; from.kind == 6 && k < 4; k++) {
                Policy p = in(from, k, now);
                if (p != null && reaches(p, to)) {
                    return true;
                }
            }
            return false;
        }

        long used(Policy cover, int year, int moment) {
            long used = 0;
            for (Case c : cases) {
                if (c.moment <= moment && c.loss.day / 365 == year && coverOf(c, moment) == cover) {
                    used += c.sum(13, moment, 10949) - c.interest(moment) - c.sum(19, moment, 10949);
                }
            }
            return used;
        }
    }

    // ---- the face

    Office o = new Office();
    Work looked;
    int met, takings;
    final List<Integer> tape = new ArrayList<>();
    List<Integer> said = new ArrayList<>();

    static boolean in(long v, long low, long high) {
        return v >= low && v <= high;
    }

    static boolean money(long v) {
        return in(v, 0, 1000000000000L);
    }

    static boolean day(long v) {
        return in(v, 0, 10949);
    }

    Policy pol(long n) {
        return in(n, 0, o.policies.size() - 1) ? o.policies.get((int) n) : null;
    }

    private int done(int answer, long... deed) {
        o.log.add(deed);
        o.now++;
        return answer;
    }

    public int person() {
        if (o.held != null) {
            return STATE;
        }
        if (o.persons == 100) {
            return FULL;
        }
        return done(o.persons++, 1);
    }

    public int rank(int insurer, int rank) {
        if (o.held != null) {
            return STATE;
        }
        if (!in(insurer, 0, 5) || !in(rank, 0, 9)) {
            return BAD;
        }
        if (o.told[2]++ >= 60) {
            return FULL;
        }
        o.ranks.get(insurer).put(o.now + 1, rank);
        return done(1, 2, insurer, rank);
    }

    public int policy(int kind, int person, int first, int last) {
        if (o.held != null) {
            return STATE;
        }
        if (!in(kind, 0, 6) || !in(person, 0, o.persons - 1) || !day(first) || !day(last) || last < first) {
            return BAD;
        }
        if (o.policies.size() == 100) {
            return FULL;
        }
        Policy p = new Policy();
        p.number = o.policies.size();
        p.kind = kind;
        p.first = first;
        p.last = last;
        for (int k = 0; k < 4; k++) {
            p.places.add(new TreeMap<>());
        }
        o.policies.add(p);
        return done(p.number, 3, kind, person, first, last);
    }

    public int bundle(int policy, int place, int part) {
        if (o.held != null) {
            return STATE;
        }
        Policy p = pol(policy);
        if (p == null || p.kind != 6 || !in(place, 0, 3) || part != NONE && pol(part) == null) {
            return BAD;
        }
        if (part != NONE && o.reaches(pol(part), p)) {
            return STATE;
        }
        if (o.told[4]++ >= 200) {
            return FULL;
        }
        p.places.get(place).put(o.now + 1, part);
        return done(1, 4, policy, place, part);
    }

    public int period(int policy, int year, long sum) {
        if (o.held != null) {
            return STATE;
        }
        Policy p = pol(policy);
        if (p == null || p.kind == 6 || !in(year, p.first / 365, p.last / 365) || !money(sum)) {
            return BAD;
        }
        if (o.told[5]++ >= 300) {
            return FULL;
        }
        p.sums.computeIfAbsent(year, k -> new TreeMap<>()).put(o.now + 1, sum);
        return done(1, 5, policy, year, sum);
    }

    public int type(long w, int n) {
        if (!in(n, 0, 8)) {
            return BAD;
        }
        if (n == 0) {
            tape.clear();
            return 0;
        }
        if (tape.size() + n > 6000) {
            return FULL;
        }
        byte[] eight = java.nio.ByteBuffer.allocate(8).putLong(w).array();
        for (int k = 8 - n; k < 8; k++) {
            tape.add(eight[k] & 255);
        }
        return tape.size();
    }

    public int clauses(int policy) {
        int answer = clausesOf(policy, tape);
        if (answer >= 0) {
            tape.clear();
        }
        return answer;
    }

    private int clausesOf(int policy, List<Integer> bytes) {
        if (o.held != null) {
            return STATE;
        }
        Policy p = pol(policy);
        if (p == null || p.kind == 6 || bytes.size() > 400) {
            return BAD;
        }
        if (o.told[6] >= 150) {
            return FULL;
        }
        StringBuilder text = new StringBuilder();
        bytes.forEach(b -> text.append((char) (int) b));
        int fault = fault(text.toString());
        if (fault >= 0) {
            return -10 - fault;
        }
        o.told[6]++;
        List<Piece> read = read(text.toString());
        p.clauses.put(o.now + 1, read);
        long[] deed = new long[bytes.size() + 3];
        deed[0] = 6;
        deed[1] = policy;
        deed[2] = bytes.size();
        for (int i = 0; i < bytes.size(); i++) {
            deed[i + 3] = bytes.get(i);
        }
        return done(read.size(), deed);
    }

    public int shareRule(int policy, int rule) {
        if (o.held != null) {
            return STATE;
        }
        Policy p = pol(policy);
        if (p == null || p.kind == 6 || !in(rule, 0, 2)) {
            return BAD;
        }
        if (o.told[7]++ >= 150) {
            return FULL;
        }
        p.rules.put(o.now + 1, rule);
        return done(1, 7, policy, rule);
    }

    public int loss(int kind, int day) {
        if (o.held != null) {
            return STATE;
        }
        if (!in(kind, 0, 4) || !day(day)) {
            return BAD;
        }
        return newLoss(kind, day, null, 0, 8, kind, day);
    }

    public int part(int whole, int hundredths) {
        if (o.held != null) {
            return STATE;
        }
        if (!in(whole, 0, o.losses.size() - 1) || !in(hundredths, 1, 100)) {
            return BAD;
        }
        Loss l = o.losses.get(whole);
        if (l.parts() == 4) {
            return STATE;
        }
        return newLoss(5, l.day, l, hundredths, 9, whole, hundredths);
    }

    private int newLoss(int kind, int day, Loss whole, int hundredths, long... deed) {
        if (o.losses.size() == 200) {
            return FULL;
        }
        Loss l = new Loss();
        l.number = o.losses.size();
        l.kind = kind;
        l.day = day;
        l.whole = whole;
        l.hundredths = hundredths;
        o.losses.add(l);
        return done(l.number, deed);
    }

    public int item(int loss, int sort, long amount, long value) {
        if (o.held != null) {
            return STATE;
        }
        if (!in(loss, 0, o.losses.size() - 1) || o.losses.get(loss).kind == 5 || !in(sort, 0, 9) || !money(amount)
                || !money(value)) {
            return BAD;
        }
        Loss l = o.losses.get(loss);
        for (Case c : o.cases) {
            for (Loss k = c.loss; k != null; k = k.whole) {
                if (k == l) {
                    return STATE;
                }
            }
        }
        if (l.items.size() == 6) {
            return FULL;
        }
        l.items.add(new long[] {sort, amount, value});
        return done(l.items.size(), 10, loss, sort, amount, value);
    }

    public int notify(int policy, int place, int loss, int day) {
        if (o.held != null) {
            return STATE;
        }
        Policy p = pol(policy);
        if (p == null || !(p.kind == 6 ? in(place, 0, 3) : place == NONE) || !in(loss, 0, o.losses.size() - 1)
                || !day(day)) {
            return BAD;
        }
        int earliest = o.losses.get(loss).day;
        for (Case c : o.cases) {
            earliest = Math.max(earliest, c.notice);
        }
        if (day < earliest) {
            return DAY;
        }
        if (o.cases.size() == 100) {
            return FULL;
        }
        Case c = new Case();
        c.number = o.cases.size();
        c.policy = p;
        c.place = place;
        c.loss = o.losses.get(loss);
        c.notice = day;
        c.moment = o.now + 1;
        o.cases.add(c);
        return done(c.number, 11, policy, place, loss, day);
    }

    private int fact(long... deed) {
        if (o.held != null) {
            if (o.held.size() == 60) {
                return FULL;
            }
            o.held.add(deed);
            return HELD;
        }
        int answer = judge(deed);
        if (answer == 1) {
            o.log.add(deed);
        }
        return answer;
    }

    private int judge(long[] d) {
        if (!in(d[1], 0, o.cases.size() - 1) || !day(d[2])) {
            return BAD;
        }
        Case c = o.cases.get((int) d[1]);
        int day = (int) d[2];
        int act = (int) d[0];
        Fact f = new Fact();
        f.act = act;
        f.day = day;
        f.args = Arrays.copyOfRange(d, 1, d.length);
        boolean fine = true;
        switch (act) {
            case 12:
                fine = in(d[3], 0, 2) && money(f.cents = d[4]);
                break;
            case 13:
                fine = money(f.cents = d[3]) && d[3] != 0;
                break;
            case 15:
                fine = in(d[3], 0, 2);
                break;
            case 16:
                fine = in(d[3], 0, c.loss.base().items.size() - 1) && in(d[4], 0, 1) && money(f.cents = d[5])
                        && day(d[6]);
                break;
            case 17:
                fine = in(d[3], 1, 5) && money(f.cents = d[4]);
                break;
            case 18:
            case 19:
                fine = money(f.cents = d[3]);
                break;
            default:
        }
        if (!fine) {
            return BAD;
        }
        boolean open = c.open(o.now, 10949);
        if (open == (act == 15)) {
            return STATE;
        }
        int earliest = c.facts.isEmpty() ? c.notice : c.facts.get(c.facts.size() - 1).day;
        if (day < earliest) {
            return DAY;
        }
        if (act == 15) {
            int closed = 0;
            for (Fact k : c.facts) {
                closed = k.act == 14 ? k.day : closed;
            }
            int most = d[3] == 0 ? 30 : d[3] == 1 ? 365 : 20000;
            if (day - closed > most) {
                return LATE;
            }
        }
        if (act == 13) {
            if (met >= 2500) {
                return FULL;
            }
            Work w = new Work(c, day, o.now);
            w.guarded(true);
            if (w.finding != 0 || f.cents > w.total()) {
                return MUCH;
            }
            long row11 = 0;
            for (Row r : w.rows) {
                row11 += r.code == 11 ? r.cents : 0;
            }
            f.interest = Math.min(f.cents, Math.max(0, row11 - c.interest(o.now)));
            if (w.has("year") && f.cents - f.interest
                    > w.number("year", 0) - o.used(w.cover, c.loss.day / 365, o.now)) {
                return MUCH;
            }
        }
        if (act == 19) {
            long paid = c.sum(13, o.now, 10949) - c.interest(o.now);
            if (c.sum(19, o.now, 10949) + f.cents > paid) {
                return MUCH;
            }
        }
        if (c.facts.size() == 40) {
            return FULL;
        }
        f.moment = ++o.now;
        c.facts.add(f);
        return 1;
    }

    public int reserve(int theCase, int day, int kind, long cents) {
        return fact(12, theCase, day, kind, cents);
    }

    public int pay(int theCase, int day, long cents) {
        return fact(13, theCase, day, cents);
    }

    public int close(int theCase, int day) {
        return fact(14, theCase, day);
    }

    public int reopen(int theCase, int day, int ground) {
        return fact(15, theCase, day, ground);
    }

    public int correct(int theCase, int day, int item, int what, long cents, int from) {
        return fact(16, theCase, day, item, what, cents, from);
    }

    public int share(int theCase, int day, int insurer, long cents) {
        return fact(17, theCase, day, insurer, cents);
    }

    public int salvage(int theCase, int day, long cents) {
        return fact(18, theCase, day, cents);
    }

    public int recourse(int theCase, int day, long cents) {
        return fact(19, theCase, day, cents);
    }

    public int batch() {
        if (o.held != null) {
            return STATE;
        }
        o.held = new ArrayList<>();
        return ++o.batches;
    }

    public int end() {
        if (o.held == null) {
            return STATE;
        }
        List<List<Fact>> before = new ArrayList<>();
        o.cases.forEach(c -> before.add(new ArrayList<>(c.facts)));
        int answer = o.held.size();
        for (int i = 0; i < o.held.size(); i++) {
            if (judge(o.held.get(i)) != 1) {
                answer = -20 - i;
                o.cases.forEach(c -> c.facts = before.get(c.number));
                break;
            }
        }
        over(21);
        return answer;
    }

    public int undo() {
        if (o.held == null) {
            return STATE;
        }
        int answer = o.held.size();
        over(22);
        return answer;
    }

    private void over(int act) {
        o.log.add(new long[] {20});
        o.log.addAll(o.held);
        o.log.add(new long[] {act});
        o.held = null;
        o.tries++;
    }

    public long owed(int theCase, int day, int moment) {
        if (met >= 2500 || !in(theCase, 0, o.cases.size() - 1)) {
            return NO_ANSWER;
        }
        Case c = o.cases.get(theCase);
        if (!in(day, c.notice, 10949) || !in(moment, c.moment, o.now)) {
            return NO_ANSWER;
        }
        looked = new Work(c, day, moment);
        looked.guarded(true);
        return looked.finding != 0 ? NO_ANSWER : looked.total();
    }

    public int finding() {
        return looked == null ? 0 : looked.finding;
    }

    public int row(int i, int what) {
        if (!in(what, 0, 1)) {
            return BAD;
        }
        if (looked == null || !in(i, 0, looked.rows.size() - 1)) {
            return NONE;
        }
        return what == 0 ? looked.rows.get(i).code : looked.rows.get(i).argument;
    }

    public long cents(int i) {
        return looked == null || !in(i, 0, looked.rows.size() - 1) ? 0 : looked.rows.get(i).cents;
    }

    public int trace(int i) {
        return looked == null || !in(i, 0, looked.trace.size() - 1) ? NONE : looked.trace.get(i);
    }

    private int put(String text) {
        said = new ArrayList<>();
        text.chars().forEach(said::add);
        return said.size();
    }

    public int say() {
        StringBuilder b = new StringBuilder();
        String[] names = {"worth", "out", "wait", "average", "self", "own", "limit", "shared", "ownyear", "year",
            "salvage", "interest", "paid"};
        if (looked != null) {
            looked.rows.forEach(r -> b.append(names[r.code]).append(' ').append(r.cents).append('\n'));
        }
        return put(b.toString());
    }

    public int tell(int policy, int moment) {
        if (pol(policy) == null || pol(policy).kind == 6 || !in(moment, 0, o.now)) {
            return BAD;
        }
        StringBuilder b = new StringBuilder();
        pol(policy).clausesAt(moment).forEach(p -> b.append(p.text()).append(";\n"));
        return put(b.toString());
    }

    public int letter(int i) {
        return in(i, 0, said.size() - 1) ? said.get(i) : NONE;
    }

    public long used(int policy, int year, int moment) {
        if (pol(policy) == null || pol(policy).kind == 6 || !in(moment, 0, o.now) || !in(year, 0, 29)) {
            return NO_ANSWER;
        }
        return o.used(pol(policy), year, moment);
    }

    public long left(int policy, int year, int moment) {
        long used = used(policy, year, moment);
        if (used == NO_ANSWER) {
            return NO_ANSWER;
        }
        long limit = NO_ANSWER;
        for (Piece p : pol(policy).clausesAt(moment)) {
            limit = p.word.equals("year") ? p.number : limit;
        }
        return limit == NO_ANSWER ? NO_ANSWER : limit - used;
    }

    public long reserved(int kind, int year, int moment) {
        if (!in(kind, 0, 2) || !in(year, 0, 29) || !in(moment, 0, o.now)) {
            return NO_ANSWER;
        }
        long sum = 0;
        for (Case c : o.cases) {
            long last = 0;
            for (Fact f : c.facts) {
                if (f.act == 12 && f.args[2] == kind && f.moment <= moment) {
                    last = f.cents;
                }
            }
            sum += c.moment <= moment && c.loss.day / 365 == year && c.open(moment, 10949) ? last : 0;
        }
        return sum;
    }

    public long run(int by, int i, int j, int moment) {
        if (!in(by, 0, 1) || !in(i, 0, 29) || !in(j, 0, 29) || !in(moment, 0, o.now)) {
            return NO_ANSWER;
        }
        long sum = 0;
        for (Case c : o.cases) {
            int row = (by == 0 ? c.loss.day : c.notice) / 365;
            for (Fact f : c.facts) {
                sum += f.act == 13 && f.moment <= moment && row == i && f.day / 365 - row == j ? f.cents : 0;
            }
        }
        return sum;
    }

    public long factor(int by, int j, int y, int part, int moment) {
        if (!in(by, 0, 1) || !in(j, 0, 29) || !in(y, 0, 29) || !in(part, 0, 1) || !in(moment, 0, o.now)) {
            return NO_ANSWER;
        }
        long above = 0;
        long below = 0;
        for (int i = 0; i <= y - j - 1; i++) {
            for (int k = 0; k <= j + 1 && k < 30; k++) {
                above += run(by, i, k, moment);
                below += k <= j ? run(by, i, k, moment) : 0;
            }
        }
        if (below == 0) {
            return NO_ANSWER;
        }
        long g = BigInteger.valueOf(above).gcd(BigInteger.valueOf(below)).longValue();
        return (part == 0 ? above : below) / g;
    }

    static void number(long v, List<Integer> out) {
        BigInteger b = BigInteger.valueOf(v).shiftLeft(1);
        b = v < 0 ? b.negate().subtract(BigInteger.ONE) : b;
        while (b.bitLength() > 7) {
            out.add(b.intValue() & 127 | 128);
            b = b.shiftRight(7);
        }
        out.add(b.intValue());
    }

    static List<Integer> withCheck(List<Integer> bytes) {
        int h = 0;
        for (int b : bytes) {
            h = 31 * h + b;
        }
        List<Integer> all = new ArrayList<>(bytes);
        for (byte b : java.nio.ByteBuffer.allocate(4).putInt(h).array()) {
            all.add(b & 255);
        }
        return all;
    }

    public int write() {
        if (o.held != null) {
            return STATE;
        }
        List<Integer> out = new ArrayList<>();
        for (long[] deed : o.log) {
            for (long v : deed) {
                number(v, out);
            }
        }
        said = withCheck(out);
        return said.size();
    }

    private static final String[] SHAPES = {"", "", "ii", "iiii", "iii", "iil", "i", "ii", "ii", "ii", "iill", "iiii",
        "iiil", "iil", "ii", "iii", "iiiili", "iiil", "iil", "iil", "", "", ""};

    static final class NotAsTold extends RuntimeException {
        private static final long serialVersionUID = 1;

        NotAsTold() {
            super(null, null, false, false);
        }
    }

    private static long take(List<Integer> t, int[] at, int end) {
        BigInteger b = BigInteger.ZERO;
        for (int k = 0;; k++) {
            if (at[0] >= end) {
                throw new NotAsTold();
            }
            int v = t.get(at[0]++);
            b = b.or(BigInteger.valueOf(v & 127).shiftLeft(7 * k));
            if (v < 128) {
                if (v == 0 && k > 0 || b.bitLength() > 64) {
                    throw new NotAsTold();
                }
                break;
            }
        }
        return b.testBit(0) ? b.add(BigInteger.ONE).shiftRight(1).negate().longValueExact()
                : b.shiftRight(1).longValueExact();
    }

    public int takeIn() {
        if (o.held != null) {
            return STATE;
        }
        if (takings == 40) {
            return FULL;
        }
        takings++;
        if (tape.size() < 4) {
            return -10;
        }
        int end = tape.size() - 4;
        Office old = o;
        o = new Office();
        int acts = 0;
        int[] at = {0};
        while (at[0] < end) {
            int first = at[0];
            boolean fine;
            try {
                fine = again(at, end);
            } catch (NotAsTold e) {
                fine = false;
            }
            if (!fine) {
                o = old;
                return -10 - first;
            }
            acts++;
        }
        if (!withCheck(tape.subList(0, end)).equals(tape)) {
            o = old;
            return -10 - end;
        }
        tape.clear();
        return acts;
    }

    private boolean again(int[] at, int end) {
        long act = take(tape, at, end);
        if (!in(act, 1, 22)) {
            return false;
        }
        String shape = SHAPES[(int) act];
        long[] a = new long[shape.length()];
        for (int k = 0; k < a.length; k++) {
            a[k] = take(tape, at, end);
            if (shape.charAt(k) == 'i' && a[k] != (int) a[k]) {
                return false;
            }
        }
        if (act == 6) {
            long n = take(tape, at, end);
            if (!in(n, 0, 400)) {
                return false;
            }
            List<Integer> bytes = new ArrayList<>();
            for (int k = 0; k < n; k++) {
                long b = take(tape, at, end);
                if (!in(b, 0, 255)) {
                    return false;
                }
                bytes.add((int) b);
            }
            return clausesOf((int) a[0], bytes) >= 0;
        }
        if (act == 21) {
            return end() != STATE;
        }
        int answer = again((int) act, a);
        return answer >= 0 || answer == HELD;
    }

    private int again(int act, long[] a) {
        int[] i = new int[a.length];
        for (int k = 0; k < a.length; k++) {
            i[k] = (int) a[k];
        }
        switch (act) {
            case 1: return person();
            case 2: return rank(i[0], i[1]);
            case 3: return policy(i[0], i[1], i[2], i[3]);
            case 4: return bundle(i[0], i[1], i[2]);
            case 5: return period(i[0], i[1], a[2]);
            case 7: return shareRule(i[0], i[1]);
            case 8: return loss(i[0], i[1]);
            case 9: return part(i[0], i[1]);
            case 10: return item(i[0], i[1], a[2], a[3]);
            case 11: return notify(i[0], i[1], i[2], i[3]);
            case 12: return reserve(i[0], i[1], i[2], a[3]);
            case 13: return pay(i[0], i[1], a[2]);
            case 14: return close(i[0], i[1]);
            case 15: return reopen(i[0], i[1], i[2]);
            case 16: return correct(i[0], i[1], i[2], i[3], a[4], i[5]);
            case 17: return share(i[0], i[1], i[2], a[3]);
            case 18: return salvage(i[0], i[1], a[2]);
            case 19: return recourse(i[0], i[1], a[2]);
            case 20: return batch();
            default: return undo();
        }
    }

    public int of(int theCase, int what) {
        if (!in(theCase, 0, o.cases.size() - 1) || !in(what, 0, 6)) {
            return BAD;
        }
        Case c = o.cases.get(theCase);
        int[] all = {c.policy.number, c.place, c.loss.number, c.notice, c.open(o.now, 10949) ? 1 : 0, c.facts.size(),
            c.moment};
        return all[what];
    }

    public int count(int what) {
        if (!in(what, 0, 10)) {
            return BAD;
        }
        int[] all = {o.persons, o.policies.size(), o.losses.size(), o.cases.size(), o.now, o.batches, o.tries,
            o.held == null ? 0 : o.held.size(), tape.size(), said.size(), met};
        return all[what];
    }
}
