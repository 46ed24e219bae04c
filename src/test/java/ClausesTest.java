/** Part 3 of the document with promises 7, 8 and 31: TOKENS, clauses, conditions, THE FAULT, what is TOLD BACK. */
public final class ClausesTest {
    private static final int NONE = -1, BAD = -2, STATE = -3, FULL = -7;
    private static final int LOWEST = Integer.MIN_VALUE, HIGHEST = Integer.MAX_VALUE;
    private static final int FIRE = 0, WATER = 1, STORM = 3;
    private static final int CAR = 2, BUNDLE = 6;
    private static final Check check = new Check();

    public static void main(String[] args) {
        words();
        otherWords();
        numbers();
        blanks();
        forms();
        thirtyClauses();
        theLastOneCounts();
        kinds();
        conditions();
        openAtOnce();
        testsOfConditions();
        deepConditions();
        askingFromTheLeft();
        faults();
        earlyEnds();
        doesNotGoOn();
        toldBack();
        toldBackNumbers();
        toldBackBrackets();
        typing();
        fullTape();
        clausesOfAPolicy();
        textsOf400();
        toldOften();
        telling();
        check.done();
    }

    private static Desk desk() {
        Desk d = new Desk(check);
        d.office.person();
        d.office.policy(CAR, 0, 0, 364);
        d.office.policy(BUNDLE, 0, 0, 364);
        d.office.period(0, 0, 1000);
        return d;
    }

    /** So many clauses are taken. */
    private static void good(String text, int clauses) {
        Desk d = desk();
        int now = (int) d.now();
        d.due("clauses of [" + text + "]", d.clauses(0, text), clauses);
        d.due("the tape behind [" + text + "]", d.office.count(8), 0);
        d.due("the moment behind [" + text + "]", d.now(), now + 1);
    }

    /** The FAULT is there, and nothing changes. */
    private static void fault(String text, int at) {
        Desk d = desk();
        d.clauses(0, "item 5;");
        int now = (int) d.now();
        d.due("fault of [" + text + "]", d.clauses(0, text), -10 - at);
        d.due("the tape behind [" + text + "]", d.office.count(8), text.length());
        d.due("the moment behind [" + text + "]", d.now(), now);
        d.due("the clauses behind [" + text + "]", d.office.tell(0, now), 8);
    }

    private static void told(String text, String want) {
        Desk d = desk();
        d.clauses(0, text);
        d.due("bytes of [" + text + "]", d.office.tell(0, (int) d.now()), want.length());
        d.due("told back [" + text + "]", d.said(), want);
    }

    // ---- TOKENS

    private static void words() {
        check.sentence("CLAUSES are a text of TOKENS: WORDS (letters a .. z), NUMBERS (digits, 9 at most), ( ) ;"
                + " with BLANKS (32, 10) anywhere between.");
        // the bytes just beside a .. z, 0 .. 9, ( ) ; and the blanks are part of no TOKEN
        for (int b = 0; b < 256; b++) {
            boolean blank = b == 32 || b == 10;
            boolean token = b >= 'a' && b <= 'z' || b >= '0' && b <= '9' || b == '(' || b == ')' || b == ';';
            if (blank) {
                good("average" + (char) b + ";", 1);
            } else if (token && b >= 'a' && b <= 'z') {
                fault("average" + (char) b + ";", 0);
            } else if (b != ';') {
                fault("average" + (char) b + ";", 7);
            }
        }
        fault("{average;", 0);
        fault("@verage;", 0);
    }

    /** One letter more, one less, or another one makes it a WORD with which none goes on. */
    private static void otherWords() {
        check.sentence("or of the first TOKEN with which none goes on, whichever comes first;");
        String[] texts = {"in any;", "out any;", "item 5;", "loss 5;", "year 5;", "own loss 5;", "own year 5;", "wait 5;",
            "average;", "interest 5;", "by notice;", "by loss;", "in fire;", "in water;", "in theft;", "in storm;", "in third;",
            "in any unless late 5;", "in any unless not late 5;", "in any unless late 5 and items 5;",
            "in any unless late 5 or sort 5;", "in any unless amount 5;", "in any unless is any;"};
        for (String text : texts) {
            for (int i = 0; i < text.length(); i++) {
                if (!Character.isLetter(text.charAt(i))) {
                    continue;
                }
                int start = i;
                while (start > 0 && Character.isLetter(text.charAt(start - 1))) {
                    start--;
                }
                String ahead = text.substring(0, i);
                fault(ahead + "q" + text.substring(i + 1), start);
                fault(ahead + "q" + text.substring(i), start);
                fault(ahead + text.substring(i + 1), start);
            }
        }
    }

    private static void numbers() {
        check.sentence("CLAUSES are a text of TOKENS: WORDS (letters a .. z), NUMBERS (digits, 9 at most), ( ) ;"
                + " with BLANKS (32, 10) anywhere between.");
        good("item 0;", 1);
        good("item 999999999;", 1);
        good("item 000000000;", 1);
        good("item 000000001;", 1);
        check.sentence("THE FAULT of a text: the first byte that is part of no TOKEN (of a NUMBER its tenth digit),"
                + " or of the first TOKEN with which none goes on, whichever comes first;"
                + " the text's length, when it ends too early.");
        fault("item 0000000000;", 14);
        fault("item 1000000000;", 14);
        fault("item 99999999999999999999;", 14);
        fault("item 9999999999", 14);
        fault("item 999999999", 14);
        fault("in any unless items 1234567890 and", 29);
        // a NUMBER that does not go on: at its first digit
        fault("1234567890;", 0);
        fault("average 1234567890;", 8);
        fault("item 5 1234567890;", 7);
        fault("item 123456789 1;", 15);
        fault("item 123456789(1;", 14);
        fault("by 1234567890;", 3);
    }

    private static void blanks() {
        check.sentence("CLAUSES are a text of TOKENS: WORDS (letters a .. z), NUMBERS (digits, 9 at most), ( ) ;"
                + " with BLANKS (32, 10) anywhere between.");
        good("", 0);
        good(" ", 0);
        good("\n \n", 0);
        good("in any unless(not(items 1)and(late 2));item 5;", 2);
        good("\n in \n any  unless\n( not ( items\n1 ) and ( late 2 ) )\n;  item5 ; ", 2);
        good("item5;loss6;year7;own loss8;own year9;wait1;interest2;", 7);
        good("in any unless amount1or items2or late3or sort4;", 1);
        fault("i tem 5;", 0);
        fault("ownloss 5;", 0);
        fault("item 1 2;", 7);
        fault("item 5items 5;", 6);
        for (int b : new int[] {0, 9, 11, 12, 13, 31, 33, 127, 160, 255}) {
            fault("item" + (char) b + "5;", 4);
            fault("item 5;" + (char) b, 7);
            fault((char) b + "item 5;", 0);
        }
    }

    // ---- clauses

    private static void forms() {
        check.sentence("each one of: (in | out) KIND [unless COND] ; - item NUMBER ; - loss NUMBER ; - year NUMBER ;"
                + " - own loss NUMBER ; - own year NUMBER ; - wait NUMBER ; - average ; - interest NUMBER ;"
                + " - by notice ; - by loss ;");
        String[] numbered = {"item", "loss", "year", "own loss", "own year", "wait", "interest"};
        for (String words : numbered) {
            int size = words.length();
            good(words + " 7;", 1);
            fault(words, size);
            fault(words + ";", size);
            fault(words + " 7", size + 2);
            fault(words + " 7 in any;", size + 3);
            fault(words + " fire;", size + 1);
            fault(words + " (7);", size + 1);
            fault(words + "s 7;", words.startsWith("own") ? 4 : 0);
        }
        String[] alone = {"average", "by notice", "by loss"};
        for (String words : alone) {
            good(words + ";", 1);
            fault(words, words.length());
            fault(words + " 7;", words.length() + 1);
            fault(words + " average;", words.length() + 1);
        }
        fault("by;", 2);
        fault("by", 2);
        fault("by year;", 3);
        fault("by own loss;", 3);
        fault("own 5;", 4);
        fault("own;", 3);
        fault("own", 3);
        fault("own wait 5;", 4);
        fault("own own loss 5;", 4);
        fault("notice;", 0);
        fault("unless;", 0);
        fault("any;", 0);
        fault("fire;", 0);
        fault("not;", 0);
        fault("(average);", 0);
        fault(";", 0);
        fault("average;;", 8);
        for (String words : new String[] {"in", "out"}) {
            int size = words.length();
            good(words + " any;", 1);
            good(words + " any unless is any;", 1);
            fault(words, size);
            fault(words + ";", size);
            fault(words + " any", size + 4);
            fault(words + " average;", size + 1);
            fault(words + " unless is any;", size + 1);
            fault(words + " any any;", size + 5);
            fault(words + " any is any;", size + 5);
            fault(words + " any unless", size + 11);
            fault(words + " any unless;", size + 11);
            fault(words + " any unless is any unless is any;", size + 19);
            fault(words + " not any;", size + 1);
        }
    }

    private static void thirtyClauses() {
        check.sentence("30 clauses at most,");
        good("by loss;".repeat(29), 29);
        good("by loss;".repeat(30), 30);
        good("by loss;".repeat(30) + "\n ", 30);
        check.sentence("A 31st clause, a 21st open not or ( do not go on, either.");
        fault("by loss;".repeat(31), 240);
        fault("by loss;".repeat(30) + "\n  in", 243);
        fault("by loss;".repeat(30) + "x", 240);
        fault("by loss;".repeat(30) + ";", 240);
        fault("by loss;".repeat(30) + " #", 241);
    }

    private static void theLastOneCounts() {
        check.sentence("(Of several of one sort, of by notice and by loss together, the last one counts;"
                + " in and out: part 5.)");
        String[] texts = {"item 9; item 700;", "loss 9; loss 700;", "year 9; year 700;", "own loss 999; own loss 300;",
            "own year 999; own year 300;", "own loss 100; own year 200;", "loss 900; item 800; year 700;",
            "wait 99; wait 0; loss 700;", "wait 0; wait 99;", "average; average; loss 700;"};
        long[] due = {700, 700, 700, 700, 700, 700, 700, 700, 0, 700};
        for (int i = 0; i < texts.length; i++) {
            Desk d = desk();
            d.office.period(0, 0, 1000);
            d.claim(FIRE, 10, 1000, 1000);
            d.clauses(0, texts[i]);
            d.due(texts[i], d.owed(0, 10), due[i]);
        }
        Desk d = desk();
        d.claim(FIRE, 0, 1000, 1000);
        d.clauses(0, "interest 10000; interest 0;");
        d.due("interest 0 counts", d.owed(0, 300), 1000);
        // the later LOSS came first: by notice it has all, by loss nothing
        String[] orders = {"", "by notice;", "by loss;", "by loss; by notice;", "by notice; by loss;",
            "by loss; by notice; by loss;"};
        long[] first = {100, 100, 0, 100, 0, 0};
        for (int i = 0; i < orders.length; i++) {
            d = desk();
            d.office.loss(FIRE, 9);
            d.office.loss(FIRE, 8);
            for (int loss = 0; loss < 2; loss++) {
                d.office.item(loss, 0, 100, 100);
                d.office.notify(0, NONE, loss, 10);
            }
            d.clauses(0, "year 100;" + orders[i]);
            d.due("the first with " + orders[i], d.owed(0, 10), first[i]);
            d.due("the second with " + orders[i], d.owed(1, 10), 100 - first[i]);
        }
    }

    private static void kinds() {
        check.sentence("KIND: fire, water, theft, storm, third, any. COND: AND {or AND}. AND: NOT {and NOT}."
                + " NOT: not NOT, ( COND ), or a TEST: amount NUMBER, items NUMBER, late NUMBER, sort NUMBER, is KIND.");
        for (String kind : new String[] {"fire", "water", "theft", "storm", "third", "any"}) {
            good("in " + kind + ";", 1);
            good("out " + kind + ";", 1);
            good("in any unless is " + kind + ";", 1);
            fault("in " + kind + "s;", 3);
            fault("in " + kind.substring(1) + ";", 3);
            fault("in any unless is " + kind.substring(0, kind.length() - 1) + ";", 17);
        }
        fault("in part;", 3);
        fault("in damage;", 3);
        fault("in any unless is 5;", 17);
        fault("in any unless is not fire;", 17);
        fault("in any unless is;", 16);
    }

    private static void conditions() {
        check.sentence("KIND: fire, water, theft, storm, third, any. COND: AND {or AND}. AND: NOT {and NOT}."
                + " NOT: not NOT, ( COND ), or a TEST: amount NUMBER, items NUMBER, late NUMBER, sort NUMBER, is KIND.");
        String ahead = "in any unless ";
        String[] good = {"amount 1", "items 1", "late 1", "sort 1", "is fire", "not late 1", "not not late 1", "(late 1)",
            "((late 1))", "not(late 1)", "(not late 1)", "late 1 or late 2", "late 1 or late 2 or late 3",
            "late 1 and late 2 and late 3", "late 1 and late 2 or late 3 and late 4", "not late 1 and not late 2",
            "(late 1 or late 2)and(late 3 or late 4)", "sort 10", "sort 999999999"};
        for (String cond : good) {
            good(ahead + cond + ";", 1);
        }
        String[] faulty = {"late", "late fire", "late (1)", "is late", "fire", "5", "()", "(late 1", "(late 1;", "late 1)",
            "late 1 late 2", "late 1 not late 2", "late 1 (late 2)", "late 1 or", "late 1 or or late 2", "late 1 and;",
            "late 1 and or late 2", "not", "not;", "not and late 1", "or late 1", "and late 1", "late 1 and )",
            "(late 1))", "(late 1 or)", "late 1 unless late 2", "items or", "unless late 1", "amount fire", "sort;",
            "wait 5", "item 5", "average", "notice", "late 1 not"};
        int[] at = {4, 5, 5, 3, 0, 0, 1, 7, 7, 6, 7, 7, 7, 9, 10, 10, 11, 3, 3, 4, 0, 0, 11, 8, 10, 7, 6, 0, 7, 4, 0, 0, 0,
            0, 7};
        for (int i = 0; i < faulty.length; i++) {
            fault(ahead + faulty[i], 14 + at[i]);
        }
    }

    private static void openAtOnce() {
        check.sentence("(20 not and ( may be open at once, a not until its NOT ends.)");
        String ahead = "in any unless ";
        good(ahead + "not ".repeat(20) + "late 1;", 1);
        good(ahead + "(".repeat(20) + "late 1" + ")".repeat(20) + ";", 1);
        good(ahead + "not(".repeat(10) + "late 1" + ")".repeat(10) + ";", 1);
        check.sentence("A 31st clause, a 21st open not or ( do not go on, either.");
        fault(ahead + "not ".repeat(21) + "late 1;", 14 + 80);
        fault(ahead + "not ".repeat(20) + "(late 1);", 14 + 80);
        fault(ahead + "(".repeat(21) + "late 1;", 14 + 20);
        fault(ahead + "(".repeat(20) + "not late 1;", 14 + 20);
        fault(ahead + "not(".repeat(10) + "not late 1;", 14 + 40);
        fault(ahead + "not(".repeat(10) + "late 1 and (late 2);", 14 + 51);
        fault(ahead + "(".repeat(20) + "late 1 or not late 1;", 14 + 30);
        // those that have ended are open no more: a not with its NOT, a ( with its )
        check.sentence("(20 not and ( may be open at once, a not until its NOT ends.)");
        good(ahead + "not ".repeat(20) + "late 1 and " + "not ".repeat(20) + "late 2 or " + "not ".repeat(20) + "late 3;", 1);
        good(ahead + "(".repeat(20) + "late 1" + ")".repeat(20) + "or" + "(".repeat(20) + "late 1" + ")".repeat(20) + ";", 1);
        good(ahead + "(".repeat(19) + "not late 1 and not late 2 or (late 3)" + ")".repeat(19) + ";", 1);
        fault(ahead + "(".repeat(19) + "not late 1 and not not late 2;", 14 + 19 + 19);
        // a not is open as long as the ( behind it
        fault(ahead + "not(".repeat(9) + "not(late 1 and not late 2)", 14 + 36 + 15);
        good(ahead + "not(".repeat(9) + "(late 1 and not late 2)" + ")".repeat(9) + ";", 1);
    }

    /** Whether a clause makes it in: a CAR does not cover WATER. */
    private static void holds(Desk d, int theCase, int day, String cond, boolean want) {
        d.clauses(0, "in water unless " + cond + ";");
        d.due("holds: " + cond, d.owed(theCase, day) == 0 ? 1 : 0, want ? 1 : 0);
    }

    private static void testsOfConditions() {
        check.sentence("amount: the sum of AMOUNTS is above NUMBER; items: there are more than NUMBER;"
                + " late: the NOTICE is more than NUMBER days behind the day of the LOSS;"
                + " sort: an ITEM is of that SORT; is: the LOSS IS that (any: yes).");
        Desk d = desk();
        d.office.loss(WATER, 20);
        d.office.item(0, 0, 300, 100);
        d.office.item(0, 9, 200, 1000);
        int c = d.office.notify(0, NONE, 0, 27);
        String[] cond = {"amount 499", "amount 500", "amount 501", "items 0", "items 1", "items 2", "items 999999999", "late 6",
            "late 7", "late 8", "sort 0", "sort 9", "sort 1", "sort 8", "sort 10", "is water", "is any", "is storm", "is fire"};
        String want = "ynnyynnynnyynnnyynn";
        for (int i = 0; i < cond.length; i++) {
            holds(d, c, 30, cond[i], want.charAt(i) == 'y');
        }
        // on the day of the LOSS, without ITEMS
        d = desk();
        d.office.loss(WATER, 20);
        c = d.office.notify(0, NONE, 0, 20);
        d.clauses(0, "out any unless late 0;");
        d.dueRows(c, 20, "0 f0 | 0 0 0 | 1 0 0");
        d.clauses(0, "in any unless items 0;");
        d.dueRows(c, 20, "0 f0 | 0 0 0");
        d.clauses(0, "in any unless amount 0;");
        d.dueRows(c, 20, "0 f0 | 0 0 0");
        d.clauses(0, "in any unless sort 0;");
        d.dueRows(c, 20, "0 f0 | 0 0 0");
        // of a PART: the ITEMS of its WHOLE, not by HUNDREDTHS; a day late
        d = desk();
        d.office.item(d.office.loss(WATER, 20), 4, 500, 500);
        d.office.part(0, 50);
        c = d.office.notify(0, NONE, 1, 21);
        holds(d, c, 21, "amount 499", true);
        holds(d, c, 21, "amount 500", false);
        holds(d, c, 21, "items 0 and sort 4 and is water and late 0", true);
        holds(d, c, 21, "late 1", false);
        // as CORRECTED on the day that is asked for
        d.office.correct(c, 21, 0, 0, 600, 25);
        holds(d, c, 24, "amount 500", false);
        holds(d, c, 25, "amount 599", true);
        holds(d, c, 25, "amount 600", false);
    }

    private static void deepConditions() {
        check.sentence("(20 not and ( may be open at once, a not until its NOT ends.)");
        Desk d = desk();
        d.office.item(d.office.loss(WATER, 20), 1, 100, 100);
        int c = d.office.notify(0, NONE, 0, 20);
        // the innermost one decides: SORT 1 is there, SORT 2 is not
        for (int deep : new int[] {1, 19, 20}) {
            String ahead = "sort1and(sort2or ".repeat(deep);
            String behind = ")".repeat(deep);
            holds(d, c, 20, ahead + "is water" + behind, true);
            holds(d, c, 20, ahead + "is fire" + behind, false);
            holds(d, c, 20, "not ".repeat(deep) + "is water", deep % 2 == 0);
            holds(d, c, 20, "not ".repeat(deep) + "is fire", deep % 2 == 1);
            holds(d, c, 20, "(".repeat(deep) + "is fire" + behind + "or" + "(".repeat(deep) + "is water" + behind, true);
        }
        holds(d, c, 20, "not(".repeat(10) + "sort 1 and is water" + ")".repeat(10), true);
        holds(d, c, 20, "not(sort2or sort1and ".repeat(9) + "not(is fire or sort2)" + ")".repeat(9), false);
        holds(d, c, 20, "not(sort2or sort1and ".repeat(9) + "not(is water or sort2)" + ")".repeat(9), true);
    }

    private static void askingFromTheLeft() {
        check.sentence("and, or ask from the left, as far as they must.");
        // WATER to a CAR: 104 60 95 95 95 10, 95 by the KIND of the clause, then what the COND asks
        String[] conds = {"is fire and is water", "is water and is fire", "is water or is fire", "is fire or is water",
            "is fire and is fire or is water", "is any and is any", "is water and is water and is fire",
            "not is fire and is water", "(is fire or is water) and is fire", "is fire or (is fire and is water)"};
        int[] asked = {1, 2, 1, 2, 2, 0, 3, 2, 3, 2};
        for (int i = 0; i < conds.length; i++) {
            Desk d = desk();
            int c = d.claim(WATER, 20, 100, 100);
            d.clauses(0, "out water unless " + conds[i] + ";");
            d.owed(c, 20);
            d.due("asked by " + conds[i], d.trace(), "104 60 95 95 95 10 95" + " 95".repeat(asked[i]));
        }
        // the KIND first, and the COND just if it IS that; of any nothing is asked
        Desk d = desk();
        int c = d.claim(WATER, 20, 100, 100);
        d.clauses(0, "in fire unless is water; in any unless is water; in water unless is storm; out storm;");
        d.owed(c, 20);
        d.due("fire: 95; any: 95; water: 95 95; storm: 95", d.trace(), "104 60 95 95 95 10 95 95 95 95 95 1 2 63 95 13");
        // a STORM asks twice, as it IS no WATER
        d = desk();
        c = d.claim(STORM, 20, 100, 100);
        d.clauses(0, "out water;");
        d.owed(c, 20);
        d.due("a storm", d.trace(), "104 60 125 95 125 95 125 95 10 125 95");
    }

    // ---- THE FAULT

    private static void faults() {
        check.sentence("THE FAULT of a text: the first byte that is part of no TOKEN (of a NUMBER its tenth digit),"
                + " or of the first TOKEN with which none goes on, whichever comes first;"
                + " the text's length, when it ends too early.");
        // a wrong TOKEN ahead of a byte that is part of none, and the other way round
        fault("item fire #", 5);
        fault("item # fire", 5);
        fault("item #5 fire", 5);
        fault("item 5 #; fire", 7);
        fault("item 5 fire #", 7);
        fault("items# 5;", 0);
        fault("item# 5;", 4);
        fault("in fire#;", 7);
        fault("in fires#;", 3);
        fault("in any unless late 1234567890 #", 14 + 14);
        fault("in any unless late # 1234567890", 14 + 5);
        fault("average; average; averages;", 18);
        fault("average;\n\n  xyz;", 12);
        fault("z".repeat(400), 0);
        fault("average;" + "z".repeat(392), 8);
        fault("item " + "0".repeat(395), 14);
        fault("\u00ff", 0);
        fault("\u0000average;", 0);
        // words that are longer than any, or begin like one
        fault("interestinterest 5;", 0);
        fault("interesta 5;", 0);
        fault("interes 5;", 0);
        fault("a;", 0);
        fault("in an;", 3);
    }

    private static void earlyEnds() {
        check.sentence("THE FAULT of a text: the first byte that is part of no TOKEN (of a NUMBER its tenth digit),"
                + " or of the first TOKEN with which none goes on, whichever comes first;"
                + " the text's length, when it ends too early.");
        String text = "out storm unless not ( amount 5 or is any and late 7 ) ; own year 12 ;";
        for (int size = 1; size < text.length(); size++) {
            String cut = text.substring(0, size);
            // cut within a word it is that word that does not go on, unless what is left of it is one, too
            boolean within = Character.isLetter(text.charAt(size - 1)) && Character.isLetter(text.charAt(size));
            if (size == text.indexOf(';') + 1 || size == text.indexOf(';') + 2) {
                good(cut, 1);
            } else if (!within) {
                fault(cut, size);
                fault(cut + "\n ", size + 2);
            } else {
                fault(cut, cut.lastIndexOf(' ') + 1);
            }
        }
        good(text, 2);
        fault("average", 7);
        fault("average;in", 10);
        // 400 bytes, all of them blanks behind a clause that does not end
        fault("average" + " ".repeat(393), 400);
    }

    private static void doesNotGoOn() {
        check.sentence("A 31st clause, a 21st open not or ( do not go on, either.");
        // what goes on ahead of it is judged first
        fault("by loss;".repeat(29) + "by lost;" + "by loss;", 235);
        fault("in any unless " + "(".repeat(19) + "fire" + "((", 14 + 19);
        fault("by loss;".repeat(29) + "in any unless " + "(".repeat(21), 232 + 14 + 20);
        fault("by loss;".repeat(30) + "in any unless " + "(".repeat(21), 240);
    }

    // ---- TOLD BACK

    private static void toldBack() {
        check.sentence("TOLD BACK clauses: one blank between TOKENS, but none ahead of ; and ), and none behind ( ;"
                + " a line (10) behind each ; .");
        told("", "");
        told(" \n", "");
        told("in fire;", "in fire;\n");
        told("  in\n\nfire  ;  out water\n;", "in fire;\nout water;\n");
        told("item 1;loss 2;year 3;own loss 4;own year 5;wait 6;average;interest 7;by notice;by loss;",
                "item 1;\nloss 2;\nyear 3;\nown loss 4;\nown year 5;\nwait 6;\naverage;\ninterest 7;\nby notice;\n"
                + "by loss;\n");
        told("in any unless not(amount1or items2)and(late3or not sort4);",
                "in any unless not (amount 1 or items 2) and (late 3 or not sort 4);\n");
        told("out third unless is fire or is water or is theft or is storm or is third or is any;",
                "out third unless is fire or is water or is theft or is storm or is third or is any;\n");
        told("item 1;item 1;item 2;", "item 1;\nitem 1;\nitem 2;\n");
        told("by loss;".repeat(30), "by loss;\n".repeat(30));
    }

    private static void toldBackNumbers() {
        check.sentence("NUMBERS have no 0 ahead that need not be.");
        told("item 0;", "item 0;\n");
        told("item 000;", "item 0;\n");
        told("item 000000000;", "item 0;\n");
        told("item 007;", "item 7;\n");
        told("item 010;", "item 10;\n");
        told("item 999999999;", "item 999999999;\n");
        told("item 100000000;", "item 100000000;\n");
        told("item 099999999;", "item 99999999;\n");
        told("in any unless sort 00 or late 09;", "in any unless sort 0 or late 9;\n");
    }

    private static void cond(String text, String want) {
        told("in any unless " + text + ";", "in any unless " + want + ";\n");
        // what is TOLD BACK says the same: told back again it stays
        told("in any unless " + want + ";", "in any unless " + want + ";\n");
    }

    private static void toldBackBrackets() {
        check.sentence("Brackets stand just around an or within an and, and around an and, an or behind not.");
        cond("(late 1)", "late 1");
        cond("(((late 1)))", "late 1");
        cond("not (late 1)", "not late 1");
        cond("(not late 1)", "not late 1");
        cond("not(not(late 1))", "not not late 1");
        cond("(late 1 or late 2)", "late 1 or late 2");
        cond("(late 1 and late 2)", "late 1 and late 2");
        cond("late 1 or (late 2 or late 3)", "late 1 or late 2 or late 3");
        cond("(late 1 or late 2) or late 3", "late 1 or late 2 or late 3");
        cond("late 1 and (late 2 and late 3)", "late 1 and late 2 and late 3");
        cond("late 1 or (late 2 and late 3)", "late 1 or late 2 and late 3");
        cond("(late 1 and late 2) or late 3", "late 1 and late 2 or late 3");
        cond("late 1 and (late 2 or late 3)", "late 1 and (late 2 or late 3)");
        cond("(late 1 or late 2) and late 3", "(late 1 or late 2) and late 3");
        cond("((late 1 or late 2)) and ((late 3))", "(late 1 or late 2) and late 3");
        cond("not (late 1 and late 2)", "not (late 1 and late 2)");
        cond("not (late 1 or late 2)", "not (late 1 or late 2)");
        cond("not ((late 1 or late 2))", "not (late 1 or late 2)");
        cond("not (not late 1 and late 2)", "not (not late 1 and late 2)");
        cond("(not (late 1)) and late 2", "not late 1 and late 2");
        cond("not (late 1 or late 2) or late 3", "not (late 1 or late 2) or late 3");
        cond("late 1 and (late 2 or (late 3 and (late 4 or late 5)))",
                "late 1 and (late 2 or late 3 and (late 4 or late 5))");
        cond("(".repeat(20) + "late 1" + ")".repeat(20), "late 1");
        cond("not ".repeat(20) + "late 1", "not ".repeat(20) + "late 1");
        cond("late1and(late2or ".repeat(14) + "late3" + ")".repeat(14),
                "late 1 and (late 2 or ".repeat(14) + "late 3" + ")".repeat(14));
        // as deep as it may be: what is TOLD BACK is more than a text may have
        Desk d = desk();
        d.due("20 deep", d.clauses(0, "in any unless " + "late1and(late2or ".repeat(20) + "late3" + ")".repeat(20) + ";"), 1);
        d.due("told back", d.office.tell(0, (int) d.now()), 14 + 22 * 20 + 6 + 20 + 2);
        d.due("its last byte but one", d.office.letter(480), ';');
    }

    // ---- promise 7

    private static void typing() {
        check.sentence("The n (1 .. 8) lowest bytes of w, the highest first, come behind THE TAPE: how many it has."
                + " n = 0: it is empty. BAD; FULL: more than 6000.");
        Office o = new Office();
        for (int n : new int[] {LOWEST, -1, 9, HIGHEST}) {
            check.due("type(7, " + n + ")", o.type(7, n), BAD);
            check.due("bytes", o.count(8), 0);
        }
        check.due("one", o.type(-1, 1), 1);
        check.due("eight", o.type(Long.MIN_VALUE, 8), 9);
        check.due("n = 9", o.type(7, 9), BAD);
        check.due("n = -1", o.type(7, -1), BAD);
        check.due("bytes", o.count(8), 9);
        check.due("empty", o.type(-1, 0), 0);
        check.due("bytes", o.count(8), 0);
        check.due("empty again", o.type(0, 0), 0);
        check.due("no moment", o.count(4), 0);
        // the lowest bytes, the highest of them first, for each n
        String text = "by loss;";
        for (int n = 1; n <= 8; n++) {
            Desk d = desk();
            long w = 0x2323232323232323L;
            for (int i = 0; i < n; i++) {
                w = w << 8 | text.charAt(i);
            }
            d.due("bytes", d.office.type(w, n), n);
            Tape.type(d.office, text.substring(n));
            d.due("the text of " + n, d.office.clauses(0), 1);
        }
    }

    /** 6000 bytes are more than 512 calls may type; so this one goes beyond what is promised of an object. */
    private static void fullTape() {
        check.sentence("The n (1 .. 8) lowest bytes of w, the highest first, come behind THE TAPE: how many it has."
                + " n = 0: it is empty. BAD; FULL: more than 6000.");
        Office o = new Office(2000);
        for (int i = 1; i < 750; i++) {
            check.due("type", o.type(7, 8), 8 * i);
        }
        check.due("5999", o.type(7, 7), 5999);
        check.due("two more", o.type(7, 2), FULL);
        check.due("eight more", o.type(7, 8), FULL);
        check.due("it stays", o.count(8), 5999);
        check.due("the last one", o.type(7, 1), 6000);
        check.due("one more", o.type(7, 1), FULL);
        check.due("BAD ahead of it", o.type(7, 9), BAD);
        check.due("it stays", o.count(8), 6000);
        check.due("none", o.type(7, 0), 0);
        check.due("again", o.type(7, 8), 8);
    }

    // ---- promise 8

    private static void clausesOfAPolicy() {
        check.sentence("THE TAPE, which is empty then, are CLAUSES of a POLICY: how many;"
                + " -10 less the FAULT (then THE TAPE stays).");
        Desk d = desk();
        d.due("two", d.clauses(0, "average; by loss;"), 2);
        d.due("it is empty", d.office.count(8), 0);
        d.due("none", d.office.clauses(0), 0);
        d.due("they are the clauses now", d.office.tell(0, (int) d.now()), 0);
        d.due("a fault", d.clauses(0, "average; bi loss;"), -19);
        d.due("the tape stays", d.office.count(8), 17);
        d.due("the same fault", d.office.clauses(0), -19);
        check.sentence("BAD: also a BUNDLE, a TAPE of more than 400; FULL (ahead of a FAULT): 150 were told.");
        for (int policy : new int[] {LOWEST, -1, 1, 2, HIGHEST}) {
            d.due("clauses(" + policy + ")", d.office.clauses(policy), BAD);
            d.due("the tape stays", d.office.count(8), 17);
        }
        d.due("moment", d.now(), 6);
    }

    private static void textsOf400() {
        check.sentence("BAD: also a BUNDLE, a TAPE of more than 400; FULL (ahead of a FAULT): 150 were told.");
        good("average;" + " ".repeat(392), 1);
        good(" ".repeat(392) + "average;", 1);
        good(" ".repeat(400), 0);
        fault(" ".repeat(399) + "#", 399);
        for (String text : new String[] {" ".repeat(401), "average;" + " ".repeat(393), "#".repeat(401), "#".repeat(4000)}) {
            Desk d = desk();
            int now = (int) d.now();
            d.due("a text of " + text.length(), d.clauses(0, text), BAD);
            d.due("the tape stays", d.office.count(8), text.length());
            d.due("no moment", d.now(), now);
        }
        // as many TOKENS as 400 bytes may have
        good("in any unless late 1" + "or late1".repeat(47) + ";   ", 1);
        fault("(".repeat(400), 0);
        fault("in any unless " + "(".repeat(386), 34);
        fault("item " + ";".repeat(395), 5);
    }

    private static void toldOften() {
        check.sentence("BAD: also a BUNDLE, a TAPE of more than 400; FULL (ahead of a FAULT): 150 were told.");
        Desk d = desk();
        d.office.policy(0, 0, 0, 5);
        d.clauses(0, "#");
        d.due("a fault is not told", d.office.clauses(0), -10);
        d.office.type(0, 0);
        for (int i = 0; i < 149; i++) {
            d.due("clauses", d.office.clauses(i % 2 == 0 ? 0 : 2), 0);
        }
        d.due("a fault ahead of the last", d.clauses(0, "#"), -10);
        d.due("the 150th", d.clauses(0, "item 5;"), 1);
        d.due("the 151st", d.office.clauses(0), FULL);
        d.due("of another policy", d.office.clauses(2), FULL);
        d.due("ahead of a fault", d.clauses(0, "#"), FULL);
        d.due("the tape stays", d.office.count(8), 1);
        d.due("BAD ahead of it: a bundle", d.office.clauses(1), BAD);
        d.due("BAD ahead of it: none", d.office.clauses(3), BAD);
        d.due("BAD ahead of it: 401", d.clauses(0, " ".repeat(401)), BAD);
        d.due("the last ones hold", d.office.tell(0, (int) d.now()), 8);
        d.due("moment", d.now(), 5 + 150);
        d.due("another telling goes on", d.office.shareRule(0, 0), 1);
    }

    // ---- promise 31

    private static void telling() {
        check.sentence("CLAUSES of a POLICY as KNOWN at a moment are TOLD BACK: how many bytes. BAD (a BUNDLE, too).");
        Desk d = desk();
        Office o = d.office;
        d.clauses(0, "item 5;");
        int now = o.count(4);
        d.clauses(0, "loss 77;");
        d.due("none at first", o.tell(0, 0), 0);
        d.due("none ahead of it", o.tell(0, now - 1), 0);
        d.due("the first", o.tell(0, now), 8);
        d.due("the first", d.said(), "item 5;\n");
        d.due("the second", o.tell(0, now + 1), 9);
        d.due("the second", d.said(), "loss 77;\n");
        int[][] bad = {{0, -1}, {0, now + 2}, {0, LOWEST}, {0, HIGHEST}, {-1, now}, {2, now}, {1, now}, {1, 0},
            {LOWEST, now}, {HIGHEST, now}};
        for (int[] b : bad) {
            d.due("tell(" + b[0] + ", " + b[1] + ")", o.tell(b[0], b[1]), BAD);
            d.due("what was told stays", o.count(9), 9);
        }
        o.batch();
        d.due("in a batch", o.tell(0, now), 8);
        d.due("clauses in a batch", o.clauses(0), STATE);
    }
}
