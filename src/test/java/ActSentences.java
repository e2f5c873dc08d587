/** What the document says of acts and mistakes, and of how one comes behind the other: a test for each sentence. */
final class ActSentences {
    private static final String TERMS = "Terms 3";
    private static final int LAST = Books.LAST;
    private static final int NONE = SealBook.NONE;
    private static final int[] FAR = {Integer.MIN_VALUE, Integer.MAX_VALUE};

    private final Check check;

    ActSentences(Check check) {
        this.check = check;
    }

    void ask() {
        acts();
        kinds();
        notBehindNow();
        sure();
        actKnown();
        actNumber();
        actNone();
        strikeTrue();
        strikeFalse();
        mistakes();
        mistakeSurely();
        mistakeKnown();
        mistakeNumber();
        mistakeNone();
        allKnownUpTo();
        oneBehindTheOther();
        mistakeIs();
        rulesInOrder();
        secondAsX();
        askedAhead();
        conditionOf2();
        conditionOf1();
        conditionOf0();
        uponWhatWasLeft();
        actNotSure();
        lookWhat();
        lookOthers();
    }

    private void acts() {
        check.says(10, TERMS, "ACTS 0 to 199,");
        SealBook book = Books.at(300, "l:1>x+a", 0);
        for (int k = 0; k < 199; k++) {
            check.due("ACT", book.act(2, 0, NONE, k, true), k);
        }
        check.due("look(199, 0), not there", book.look(199, 0), NONE);
        check.due("ACT 199", book.act(3, 0, NONE, 250, true), 199);
        check.due("look(199, 0)", book.look(199, 0), 3);
        check.due("it counts", book.since(0, 0, 0, 300, 300, 0), 250);
        check.due("ACT 200", book.act(3, 0, NONE, 260, true), NONE);
        check.due("it doesn't count", book.since(0, 0, 0, 300, 300, 0), 250);
        check.is("strike(199)", book.strike(199));
        check.not("strike(200)", book.strike(200));
        check.due("a STRUCK one leaves no room", book.act(3, 0, NONE, 260, true), NONE);
    }

    private void kinds() {
        check.says(10, TERMS, "each of a KIND: 0 (t) one THING touched another one, 1 (k) they were cooked together, "
                + "2 (c) one was cleansed, 3 (l) one was heated;");
        for (int kind = 0; kind < 4; kind++) {
            SealBook book = Books.at(5, "t:1>x+a;k:1>x+b;c:1>x+c;l:1>x+d", 0, 0);
            check.due("act of KIND " + kind, book.act(kind, 0, kind < 2 ? 1 : NONE, 1, true), 0);
            for (int mark = 0; mark < 4; mark++) {
                check.due("its RULE, KIND " + kind, Books.mark(book, 0, mark), mark == kind ? 2 : 0);
                check.due("on the other one", Books.mark(book, 1, mark), mark == kind && kind < 2 ? 2 : 0);
            }
        }
        check.due("KIND -1", Books.at(5, "", 0, 0).act(-1, 0, 1, 1, true), NONE);
        check.due("KIND 4", Books.at(5, "", 0, 0).act(4, 0, NONE, 1, true), NONE);
        check.due("KIND 4, two THINGS", Books.at(5, "", 0, 0).act(4, 0, 1, 1, true), NONE);
    }

    private void notBehindNow() {
        check.says(10, TERMS, "at a MINUTE that is not behind NOW;");
        SealBook book = Books.at(5, "", 0, 0);
        check.due("at NOW", book.act(0, 0, 1, 5, true), 0);
        check.due("one behind NOW", book.act(0, 0, 1, 6, true), NONE);
        check.due("one ahead of NOW", book.act(0, 0, 1, 4, true), 1);
        check.due("MINUTE 0", book.act(0, 0, 1, 0, true), 2);
        check.due("MINUTE -1", book.act(0, 0, 1, -1, true), NONE);
        book.now(6);
        check.due("when it is NOW", book.act(0, 0, 1, 6, true), 3);
        book = Books.at(LAST, "", 0, 0);
        check.due("the last MINUTE", book.act(0, 0, 1, LAST, true), 0);
        check.due("behind it", book.act(0, 0, 1, LAST + 1, true), NONE);
    }

    private void sure() {
        check.says(10, TERMS, "SURE, or not.");
        SealBook book = Books.at(5, "l:1>x+a", 0, 0);
        book.act(3, 0, NONE, 5, true);
        book.act(3, 1, NONE, 5, false);
        check.due("SURE", Books.mark(book, 0, 0), 2);
        check.due("not SURE", Books.mark(book, 1, 0), 1);
    }

    private void actKnown() {
        check.says(11, TERMS, "An ACT is KNOWN from the NOW at which it was told, "
                + "till the NOW at which it is STRUCK (then no more).");
        SealBook book = Books.at(10, "l:1>x+a", 0, 0);
        book.act(3, 0, NONE, 2, true);
        book.now(20);
        book.strike(0);
        int[][] due = {{0, 0}, {2, 0}, {9, 0}, {10, 2}, {11, 2}, {19, 2}, {20, 0}, {21, 0}, {LAST, 0}};
        for (int[] one : due) {
            check.due("as KNOWN at " + one[0], book.mark(0, 0, 0, 20, one[0]), one[1]);
        }
        book.act(3, 1, NONE, 20, true);
        check.due("not STRUCK, as KNOWN at the last", book.mark(0, 1, 0, 20, LAST), 2);
        book.strike(1);
        check.due("told and STRUCK at one NOW", book.mark(0, 1, 0, 20, 20), 0);
        check.due("nor ahead of it", book.mark(0, 1, 0, 20, 19), 0);
    }

    private void actNumber() {
        check.says(10, "An ACT (KINDS 2, 3: b NONE): its number");
        SealBook book = Books.at(5, "", 0, 0, 0);
        check.due("touched", book.act(0, 0, 2, 1, true), 0);
        check.due("cooked", book.act(1, 2, 0, 1, true), 1);
        check.due("cleansed", book.act(2, 2, NONE, 1, false), 2);
        check.due("heated", book.act(3, 2, NONE, 1, false), 3);
        check.due("the same once more", book.act(3, 2, NONE, 1, false), 4);
        check.due("THINGS", book.look(0, 1) * 10 + book.look(0, 2), 2);
        check.due("THINGS", book.look(1, 1) * 10 + book.look(1, 2), 20);
        check.due("b of 2", book.look(2, 2), NONE);
        check.due("b of 3", book.look(3, 2), NONE);
    }

    private void actNone() {
        check.says(10, "NONE: no such ones (a is b, too), 200 are there.");
        // NOW is 1500, there are 3 THINGS.
        int[][] wrong = {
            {-1, 0, 1, 5}, {4, 0, 1, 5}, {4, 0, -1, 5}, {0, -1, 1, 5}, {0, 3, 1, 5}, {0, 0, 3, 5}, {0, 0, -1, 5},
            {0, 0, -2, 5}, {1, -1, 0, 5}, {1, 0, -1, 5}, {1, 3, 0, 5}, {1, 0, 3, 5}, {0, 0, 0, 5}, {0, 2, 2, 5},
            {1, 1, 1, 5}, {2, -1, -1, 5}, {2, 3, -1, 5}, {2, 0, 0, 5}, {2, 0, 1, 5}, {2, 0, -2, 5}, {3, -1, -1, 5},
            {3, 3, -1, 5}, {3, 0, 0, 5}, {3, 0, 1, 5}, {3, 0, 3, 5}, {0, 0, 1, -1}, {0, 0, 1, 1501}, {3, 0, -1, 1501},
            {0, 0, 1, 1440000},
        };
        for (int[] one : wrong) {
            check.none("act" + java.util.Arrays.toString(one), Books::small,
                    book -> book.act(one[0], one[1], one[2], one[3], true));
        }
        for (int far : FAR) {
            check.none("KIND " + far, Books::small, book -> book.act(far, 0, 1, 5, true));
            check.none("a " + far, Books::small, book -> book.act(0, far, 1, 5, true));
            check.none("b " + far, Books::small, book -> book.act(0, 0, far, 5, true));
            check.none("b " + far + ", heated", Books::small, book -> book.act(3, 0, far, 5, true));
            check.none("MINUTE " + far, Books::small, book -> book.act(0, 0, 1, far, true));
        }
        check.none("a 201st", Books::manyActs, book -> book.act(0, 0, 1, 5, true));
        check.none("a 201st, not SURE", Books::manyActs, book -> book.act(2, 0, NONE, 5, false));
        check.due("ACTS", Books.manyActs().count(3), 200);
    }

    private void strikeTrue() {
        check.says(11, "ACT i is STRUCK: true");
        SealBook book = Books.manyActs();
        check.due("ahead of it", book.since(0, 1, 0, 0, 300, 0), 0);
        check.is("strike(0)", book.strike(0));
        check.due("it is KNOWN no more", book.since(0, 1, 0, 0, 300, 0), NONE);
        check.due("the one behind it counts", book.since(0, 1, 0, 1, 300, 0), 1);
        book.now(301);
        check.is("strike(199)", book.strike(199));
        check.due("when", book.look(199, 6), 301);
        check.due("KNOWN ahead of it", book.since(0, 1, 0, 300, 300, 0), 199);
        check.due("and then no more", book.since(0, 1, 0, 300, 301, 0), 198);
        check.due("ACTS stay as many", book.count(3), 200);
    }

    private void strikeFalse() {
        check.says(11, "false: no such one, it is.");
        int[] acts = {-1, 3, 200, Integer.MIN_VALUE, Integer.MAX_VALUE};
        for (int act : acts) {
            check.refused("strike(" + act + ")", Books::small, book -> book.strike(act));
        }
        check.refused("it is STRUCK", Books::small, book -> book.strike(1));
        check.refused("it is STRUCK, later", () -> {
            SealBook book = Books.small();
            book.now(1600);
            return book;
        }, book -> book.strike(1));
        check.not("without ACTS", new SealBook().strike(0));
    }

    private void mistakes() {
        check.says(12, TERMS, "MISTAKES 0 to 9:");
        SealBook book = Books.at(20, "", new int[10]);
        for (int k = 0; k < 9; k++) {
            check.due("MISTAKE", book.mistake(k, 0, k), k);
        }
        check.due("leads of 9, not there", book.leads(9, 0, 9, 20), NONE);
        check.due("MISTAKE 9", book.mistake(9, 0, 9), 9);
        check.due("leads of 9", book.leads(9, 0, 9, 20), 2);
        check.due("MISTAKE 10", book.mistake(9, 1, 10), NONE);
        check.due("its mark", Books.mark(book, 9, 1), 0);
        check.due("leads of 10", book.leads(10, 0, 9, 20), NONE);
    }

    private void mistakeSurely() {
        check.says(12, TERMS, "a THING has a MARK surely SINCE a MINUTE (not behind NOW);");
        SealBook book = Books.at(20, "", 0);
        check.due("at NOW", book.mistake(0, 0, 20), 0);
        check.due("one behind NOW", book.mistake(0, 1, 21), NONE);
        check.due("MINUTE 0", book.mistake(0, 2, 0), 1);
        check.due("MINUTE -1", book.mistake(0, 3, -1), NONE);
        int[] marks = {2, 0, 2, 0};
        int[] since = {20, NONE, 0, NONE};
        for (int mark = 0; mark < 4; mark++) {
            check.due("MARK " + mark, book.mark(1, 0, mark, 20, 20), marks[mark]);
            check.due("SINCE", book.since(1, 0, mark, 20, 20, 0), since[mark]);
            check.due("SINCE", book.since(1, 0, mark, 20, 20, 1), since[mark]);
        }
        check.due("at 19", book.mark(0, 0, 0, 19, 20), 0);
        book = Books.at(LAST, "", 0);
        check.due("the last MINUTE", book.mistake(0, 0, LAST), 0);
    }

    private void mistakeKnown() {
        check.says(12, TERMS, "KNOWN from the NOW at which it was told on.");
        SealBook book = Books.at(10, "", 0);
        book.mistake(0, 0, 4);
        int[][] due = {{0, 0}, {4, 0}, {9, 0}, {10, 2}, {11, 2}, {LAST, 2}};
        for (int[] one : due) {
            check.due("as KNOWN at " + one[0], book.mark(0, 0, 0, 10, one[0]), one[1]);
        }
        book.now(LAST);
        check.due("at the last NOW", book.mark(0, 0, 0, LAST, LAST), 2);
        check.due("still not KNOWN at 9", book.mark(0, 0, 0, LAST, 9), 0);
    }

    private void mistakeNumber() {
        check.says(12, "A MISTAKE: its number");
        SealBook book = Books.at(3, "", 0, 255);
        for (int k = 0; k < 10; k++) {
            check.due("number", book.mistake(k % 2, k % 8, k % 4), k);
        }
        check.due("MISTAKES", book.count(4), 10);
    }

    private void mistakeNone() {
        check.says(12, "NONE: no such ones, 10 are there.");
        int[][] wrong = {{-1, 0, 5}, {3, 0, 5}, {20, 0, 5}, {0, -1, 5}, {0, 8, 5}, {0, 0, -1}, {0, 0, 1501},
            {0, 0, 1440000}};
        for (int[] one : wrong) {
            check.none("mistake" + java.util.Arrays.toString(one), Books::small,
                    book -> book.mistake(one[0], one[1], one[2]));
        }
        for (int far : FAR) {
            check.none("THING " + far, Books::small, book -> book.mistake(far, 0, 5));
            check.none("MARK " + far, Books::small, book -> book.mistake(0, far, 5));
            check.none("MINUTE " + far, Books::small, book -> book.mistake(0, 0, far));
        }
        check.due("mistake(2, 7, 1500)", Books.small().mistake(2, 7, 1500), 1);
        check.none("an 11th", Books::manyMistakes, book -> book.mistake(0, 1, 5));
        check.none("without THINGS", SealBook::new, book -> book.mistake(0, 0, 0));
    }

    private void allKnownUpTo() {
        check.says(13, TERMS, "WHAT IS, by a SCHOOL, at a MINUTE v, as KNOWN at a MINUTE t: "
                + "all ACTS and MISTAKES KNOWN at t, of MINUTES up to v,");
        SealBook book = Books.at(40, "l:1>x+a;c:1>x+b", 0);
        check.due("none at all", book.mark(0, 0, 0, LAST, LAST), 0);
        book.act(3, 0, NONE, 10, true);
        book.now(50);
        book.mistake(0, 2, 10);
        int[][] due = {{9, 50, 0, 0}, {10, 50, 2, 2}, {11, 50, 2, 2}, {10, 49, 2, 0}, {10, 40, 2, 0}, {10, 39, 0, 0}};
        for (int[] one : due) {
            check.due("the ACT at v " + one[0] + ", t " + one[1], book.mark(0, 0, 0, one[0], one[1]), one[2]);
            check.due("the MISTAKE at v " + one[0] + ", t " + one[1], book.mark(0, 0, 2, one[0], one[1]), one[3]);
        }
        check.due("t may lie ahead of v", book.mark(0, 0, 0, LAST, 40), 2);
        check.due("v may lie ahead of t", book.mark(0, 0, 0, 10, LAST), 2);
    }

    private void oneBehindTheOther() {
        check.says(13, TERMS, "one behind the other: by MINUTES, of one MINUTE MISTAKES first, by numbers.");
        SealBook book = Books.at(40, "l:1>x+a;c:1>x-a", 0);
        book.act(3, 0, NONE, 20, true);
        book.act(2, 0, NONE, 10, true);
        check.due("by MINUTES, not by numbers", Books.mark(book, 0, 0), 2);
        book.act(2, 0, NONE, 20, true);
        check.due("of one MINUTE by numbers", Books.mark(book, 0, 0), 0);
        book.act(3, 0, NONE, 20, true);
        check.due("the greater number behind it", Books.mark(book, 0, 0), 2);
        book.act(2, 0, NONE, 19, true);
        check.due("one of a MINUTE ahead", Books.mark(book, 0, 0), 2);
        book.act(2, 0, NONE, 21, true);
        check.due("one of a MINUTE behind", Books.mark(book, 0, 0), 0);
        book = Books.at(40, "c:xa>x-a,x+b", 0);
        book.act(2, 0, NONE, 20, true);
        book.mistake(0, 0, 20);
        check.due("the MISTAKE first, though told later", Books.mark(book, 0, 0), 0);
        check.due("the ACT found it", Books.mark(book, 0, 1), 2);
        book = Books.at(40, "c:xa>x-a,x+b", 0);
        book.mistake(0, 0, 21);
        book.act(2, 0, NONE, 20, true);
        check.due("the MISTAKE of a MINUTE behind", Books.mark(book, 0, 0), 2);
        check.due("the ACT didn't find it", Books.mark(book, 0, 1), 0);
    }

    private void mistakeIs() {
        check.says(13, TERMS, "A MISTAKE: the MARK is 2, SINCE that MINUTE.");
        int[] marks = {0, 1};
        for (int told : marks) {
            SealBook book = Books.at(40, "l:1>x+a", told);
            book.act(3, 0, NONE, 10, false);
            book.mistake(0, 0, 20);
            check.due("MARK", Books.mark(book, 0, 0), 2);
            check.due("earliest", book.since(0, 0, 0, 40, 40, 0), 20);
            check.due("latest", book.since(0, 0, 0, 40, 40, 1), 20);
            check.due("ahead of it", book.mark(0, 0, 0, 19, 40), 1 + told);
        }
    }

    private void rulesInOrder() {
        check.says(13, TERMS, "An ACT: all RULES of its KIND in the LAW of its DAY, in order,");
        check.due("+, then -", heated("l:1>x+a;l:1>x-a"), 0);
        check.due("-, then +", heated("l:1>x-a;l:1>x+a"), 2);
        check.due("other KINDS between", heated("l:1>x+a;c:1>x-a;t:1>x-a;k:1>x-a"), 2);
        check.due("none of its KIND", heated("c:1>x+a;t:1>x+a;k:1>x+a"), 0);
        check.due("the 24th RULE", heated("c:1>x+a;".repeat(23) + "l:1>x+a"), 2);
        check.due("the 24th RULE behind 23", heated("l:1>x+a;".repeat(23) + "l:1>x-a"), 0);
        check.due("the last of 48 EFFECTS", heated("l:1>x+b,x-a,x+c,x-a;".repeat(11) + "l:1>x+b,x-a,x-b,x+a"), 2);
        fullBook();
    }

    /** 200 ACTS, 10 MISTAKES and 20 THINGS: THING k touches THING k + 10, and has a by MISTAKE k. */
    private void fullBook() {
        SealBook book = Books.at(400, "t:xa>y+a;c:1>x-a", new int[20]);
        for (int k = 0; k < 200; k++) {
            book.act(0, k % 10, 10 + k % 10, 100 + k, true);
        }
        for (int k = 0; k < 10; k++) {
            book.mistake(k, 0, k);
        }
        for (int k = 0; k < 10; k++) {
            check.due("SINCE of THING " + (10 + k), book.since(0, 10 + k, 0, 400, 400, 0), 290 + k);
            check.due("leads", book.leads(k, 0, 10 + k, 400), 2);
            check.due("leads, the MINUTE ahead", book.leads(k, 0, 10 + k, 99 + k), 0);
            check.due("leads to another one", book.leads(k, 0, 10 + (k + 1) % 10, 400), 0);
            check.due("reached", book.reached(k, 0, 10 + k), k);
            check.due("way", book.way(k, 0, 10 + k, 1), k);
            check.due("mend", book.mend(k, 0, 10 + k), 1);
        }
    }

    private static int heated(String law) {
        SealBook book = Books.at(5, law, 0);
        book.act(3, 0, NONE, 1, true);
        return Books.mark(book, 0, 0);
    }

    private void secondAsX() {
        check.says(13, TERMS, "first with the first THING as x (and the second as y), then, if there is a second, "
                + "all of them once more with the second as x:");
        for (int kind = 0; kind < 2; kind++) {
            String letter = kind == 0 ? "t:" : "k:";
            SealBook book = Books.at(5, letter + "xa>y+b", 1, 0);
            book.act(kind, 1, 0, 1, true);
            check.due("the second as x", Books.mark(book, 1, 1), 2);
            check.due("the first as x", Books.mark(book, 0, 1), 0);
            // The first as x: b comes to the second. Then the second as x: it goes again.
            book = Books.at(5, letter + "xa>y+b;" + letter + "ya>x-b", 1, 0);
            book.act(kind, 0, 1, 1, true);
            check.due("all RULES with the second as x come behind", Books.mark(book, 1, 1), 0);
            book = Books.at(5, letter + "xa>y+b;" + letter + "ya>x-b", 1, 0);
            book.act(kind, 1, 0, 1, true);
            check.due("the other way round", Books.mark(book, 1, 1), 2);
        }
    }

    private void askedAhead() {
        check.says(13, TERMS, "the CONDITION is asked of what was ahead of the ACT;");
        SealBook book = Books.at(5, "t:1>x+a;t:xa>x+b;t:!xa>x+c;t:ya>x+d;t:xa<99>x+e", 0, 0);
        book.act(0, 0, 1, 1, true);
        int[] first = {2, 0, 2, 0, 0};
        int[] second = {2, 2, 2, 2, 2};
        for (int mark = 0; mark < 5; mark++) {
            check.due("MARK " + mark + " of x", Books.mark(book, 0, mark), first[mark]);
            check.due("MARK " + mark + " of y", Books.mark(book, 1, mark), first[mark]);
        }
        book.act(0, 0, 1, 1, true);
        for (int mark = 0; mark < 5; mark++) {
            check.due("MARK " + mark + ", by the next ACT", Books.mark(book, 0, mark), second[mark]);
        }
    }

    private void conditionOf2() {
        check.says(13, TERMS, "if it is 2, EFFECTS are done in order: + makes the MARK 2, SINCE the ACT's MINUTE; "
                + "- makes it 0;");
        SealBook book = Books.at(50, "l:1>x+a,x-a,x+a;c:1>x+a,x-a", 1);
        book.act(3, 0, NONE, 20, true);
        check.due("+, -, +", Books.mark(book, 0, 0), 2);
        check.due("earliest", book.since(0, 0, 0, 50, 50, 0), 20);
        check.due("latest", book.since(0, 0, 0, 50, 50, 1), 20);
        book.act(2, 0, NONE, 30, true);
        check.due("+, -", Books.mark(book, 0, 0), 0);
        check.due("SINCE", book.since(0, 0, 0, 50, 50, 0), NONE);
        book = Books.at(50, "l:1>x+a,x+b,x+c,x-d", 8);
        book.act(3, 0, NONE, 20, true);
        int[] due = {2, 2, 2, 0};
        for (int mark = 0; mark < 4; mark++) {
            check.due("EFFECT " + (mark + 1), Books.mark(book, 0, mark), due[mark]);
        }
    }

    private void conditionOf1() {
        check.says(13, TERMS, "if it is 1, each EFFECT makes the MARK what it is and what it would be, JOINED.");
        // MARK b is perhaps on it; a is 0, 1 (since 2) or 2 (since 0) ahead.
        int[][] due = {{0, '+', 1, 9, 9}, {0, '-', 0, -1, -1}, {1, '+', 1, 2, 9}, {1, '-', 1, 2, 2}, {2, '+', 2, 0, 9},
            {2, '-', 1, 0, 0}};
        for (int[] one : due) {
            SealBook book = Books.at(9, "l:1>x+b;k:1>x+a;c:xb>x" + (char) one[1] + "a", one[0] == 2 ? 1 : 0, 0);
            book.act(3, 0, NONE, 1, false);
            if (one[0] == 1) {
                book.act(1, 0, 1, 2, false);
            }
            book.act(2, 0, NONE, 9, true);
            String what = (char) one[1] + " upon " + one[0];
            check.due(what, Books.mark(book, 0, 0), one[2]);
            check.due(what + ", earliest", book.since(0, 0, 0, 9, 9, 0), one[3]);
            check.due(what + ", latest", book.since(0, 0, 0, 9, 9, 1), one[4]);
        }
    }

    private void conditionOf0() {
        check.says(13, TERMS, "the CONDITION is asked");
        check.due("0, +", heated("l:!1>x+a"), 0);
        check.due("0, -", heated("l:1>x+a;l:!1>x-a"), 2);
        check.due("0, all of its EFFECTS", heated("l:!1>x+b,x+a,x+c,x+a"), 0);
    }

    private void uponWhatWasLeft() {
        check.says(13, TERMS, "EFFECTS are done upon what the ones ahead of them left.");
        // By a CONDITION of 1 each: 0, then perhaps 2, then perhaps 0.
        SealBook book = Books.at(9, "l:1>x+b;c:xb>x+a,x-a", 0);
        book.act(3, 0, NONE, 1, false);
        book.act(2, 0, NONE, 5, true);
        check.due("+, then - perhaps", Books.mark(book, 0, 0), 1);
        check.due("SINCE", book.since(0, 0, 0, 9, 9, 0), 5);
        book = Books.at(9, "l:1>x+b;c:1>x+a;c:xb>x-a", 0);
        book.act(3, 0, NONE, 1, false);
        book.act(2, 0, NONE, 5, true);
        check.due("surely +, then perhaps -", Books.mark(book, 0, 0), 1);
        book = Books.at(9, "l:1>x+b;c:xb>x-a;c:1>x+a", 1);
        book.act(3, 0, NONE, 1, false);
        book.act(2, 0, NONE, 5, true);
        check.due("perhaps -, then surely +", Books.mark(book, 0, 0), 2);
        check.due("SINCE", book.since(0, 0, 0, 9, 9, 0), 5);
        book = Books.at(9, "t:xa>y+b;t:ya>x-b", 1, 0);
        book.act(0, 0, 1, 5, true);
        check.due("with the second as x, upon what the first left", Books.mark(book, 1, 1), 0);
    }

    private void actNotSure() {
        check.says(13, TERMS, "If the ACT is not SURE, at last each MARK of its THINGS is what it was ahead of the ACT "
                + "and what it is, JOINED.");
        // THING 0: a stays, b comes, c goes; THING 1: d comes; THING 2 isn't in it.
        SealBook book = Books.at(9, "t:xa>x+b,x-c,y+d,y-h", 5, 128, 255);
        book.act(0, 0, 1, 7, false);
        int[] first = {2, 1, 1, 0, 0, 0, 0, 0};
        int[] second = {0, 0, 0, 1, 0, 0, 0, 1};
        for (int mark = 0; mark < 8; mark++) {
            check.due("MARK " + mark + " of the first", Books.mark(book, 0, mark), first[mark]);
            check.due("MARK " + mark + " of the second", Books.mark(book, 1, mark), second[mark]);
            check.due("MARK " + mark + " of another", Books.mark(book, 2, mark), 2);
        }
        check.due("a, SINCE", book.since(0, 0, 0, 9, 9, 1), 0);
        check.due("b, SINCE", book.since(0, 0, 1, 9, 9, 0), 7);
        check.due("c, SINCE", book.since(0, 0, 2, 9, 9, 1), 0);
        book = Books.at(9, "l:1>x+a,x-a", 0);
        book.act(3, 0, NONE, 7, false);
        check.due("at last, not between", Books.mark(book, 0, 0), 0);
        book = Books.at(9, "l:1>x+a,x-a", 1);
        book.act(3, 0, NONE, 7, false);
        check.due("at last, not between", Books.mark(book, 0, 0), 1);
        check.due("SINCE", book.since(0, 0, 0, 9, 9, 1), 0);
    }

    private void lookWhat() {
        check.says(37, "Of ACT i, what 0 KIND, 1, 2 THINGS (NONE), 3 MINUTE, 4 whether it is SURE, "
                + "5 from when on it is KNOWN, 6 when it was STRUCK (NONE).");
        SealBook book = Books.at(0, "", 0, 0, 0);
        book.act(0, 0, 1, 0, true);
        book.now(50);
        book.act(1, 2, 0, 7, false);
        book.act(2, 2, NONE, 50, true);
        book.now(LAST);
        book.act(3, 1, NONE, LAST, false);
        book.strike(1);
        book.strike(3);
        int[][] due = {{0, 0, 1, 0, 1, 0, -1}, {1, 2, 0, 7, 0, 50, LAST}, {2, 2, -1, 50, 1, 50, -1},
            {3, 1, -1, LAST, 0, LAST, LAST}};
        for (int i = 0; i < due.length; i++) {
            for (int what = 0; what < 7; what++) {
                check.due("look(" + i + ", " + what + ")", book.look(i, what), due[i][what]);
            }
        }
        book = Books.at(0, "", 0);
        book.act(2, 0, NONE, 0, true);
        book.strike(0);
        check.due("STRUCK at MINUTE 0", book.look(0, 6), 0);
        check.due("the first of 200", Books.manyActs().look(0, 3), 0);
        check.due("the last of 200", Books.manyActs().look(199, 3), 199);
    }

    private void lookOthers() {
        check.says(37, "NONE for others.");
        SealBook book = Books.small();
        int[] acts = {-1, 3, 199, 200, Integer.MIN_VALUE, Integer.MAX_VALUE};
        for (int i : acts) {
            for (int what = 0; what < 7; what++) {
                check.due("look(" + i + ", " + what + ")", book.look(i, what), NONE);
            }
        }
        int[] whats = {-1, 7, Integer.MIN_VALUE, Integer.MAX_VALUE};
        for (int what : whats) {
            check.due("look(0, " + what + ")", book.look(0, what), NONE);
        }
        check.due("look(200, 0) of 200", Books.manyActs().look(200, 0), NONE);
        check.due("look(0, 0) of none", new SealBook().look(0, 0), NONE);
    }
}
