/** What the document says of things, marks and what the laws ask and do: a test for each sentence. */
final class MarkSentences {
    private static final String TERMS = "Terms 2";
    private static final int LAST = Books.LAST;
    private static final int NONE = SealBook.NONE;
    private static final int[] FAR = {Integer.MIN_VALUE, Integer.MAX_VALUE};

    private final Check check;

    MarkSentences(Check check) {
        this.check = check;
    }

    void ask() {
        things();
        marksAToH();
        markOf012();
        sinceBetweenTwo();
        toldSurely();
        joined();
        joinedSince();
        thingNumber();
        thingNone();
        whatIs();
        whatIsNone();
        sinceWhat();
        sinceNone();
        lawOfFeasts();
        xAndY();
        latelyNot();
        lately();
        latelyPerhaps();
        not();
        both();
        either();
        one();
        withoutY();
        effectOnNoY();
    }

    private void things() {
        check.says(9, TERMS, "THINGS 0 to 19");
        SealBook book = Books.at(0, "t:1>y+a", new int[19]);
        check.due("THING 19, not there", book.mark(0, 19, 0, 0, 0), NONE);
        check.due("THING 19", book.thing(0), 19);
        check.due("mark of THING 19", book.mark(0, 19, 0, 0, 0), 0);
        check.due("act on it", book.act(0, 0, 19, 0, true), 0);
        check.due("the mark then", book.mark(0, 19, 0, 0, 0), 2);
        check.due("THING 20", book.thing(0), NONE);
        check.due("mark of THING 20", book.mark(0, 20, 0, 0, 0), NONE);
    }

    private void marksAToH() {
        check.says(9, TERMS, "each with MARKS a to h.");
        SealBook book = Books.at(0, "", 255, 0);
        for (int mark = 0; mark < 8; mark++) {
            check.due("mark " + mark + " of all", book.mark(0, 0, mark, 0, 0), 2);
            check.due("mark " + mark + " of none", book.mark(0, 1, mark, 0, 0), 0);
        }
        check.due("mark -1", book.mark(0, 0, -1, 0, 0), NONE);
        check.due("mark 8", book.mark(0, 0, 8, 0, 0), NONE);
        for (int mark = 0; mark < 8; mark++) {
            char letter = (char) ('a' + mark);
            book = Books.at(0, "l:1>x+" + letter + ";c:x" + letter + ">x-" + letter, 0, 0);
            book.act(3, 0, NONE, 0, true);
            for (int other = 0; other < 8; other++) {
                check.due("mark " + letter + " is " + other, Books.mark(book, 0, other), mark == other ? 2 : 0);
                check.due("and on that THING alone", Books.mark(book, 1, other), 0);
            }
            book.act(2, 0, NONE, 0, true);
            check.due("mark " + letter + " is gone", Books.mark(book, 0, mark), 0);
        }
    }

    private void markOf012() {
        check.says(13, TERMS, "Each MARK of a THING is 0 (not), 1 (perhaps), or 2 (surely) on it");
        SealBook book = Books.at(9, "l:1>x+b;c:1>x+c", 1);
        book.act(3, 0, NONE, 5, false);
        book.act(2, 0, NONE, 5, true);
        check.due("told", Books.mark(book, 0, 0), 2);
        check.due("by an ACT that is not SURE", Books.mark(book, 0, 1), 1);
        check.due("by one that is", Books.mark(book, 0, 2), 2);
        check.due("not", Books.mark(book, 0, 3), 0);
    }

    private void isSince(String what, SealBook book, int mark, int earliest, int latest) {
        check.due(what + ", earliest", book.since(0, 0, mark, LAST, LAST, 0), earliest);
        check.due(what + ", latest", book.since(0, 0, mark, LAST, LAST, 1), latest);
    }

    private void sinceBetweenTwo() {
        check.says(14, TERMS,
                "if it is 1 or 2, it is SINCE a MINUTE that lies between two (an earliest and a latest one).");
        SealBook book = Books.at(50, "l:1>x+b;c:1>x-c", 4);
        isSince("0", book, 1, NONE, NONE);
        book.act(3, 0, NONE, 20, false);
        isSince("1", book, 1, 20, 20);
        book.act(3, 0, NONE, 30, false);
        isSince("1, of two", book, 1, 20, 30);
        book.act(3, 0, NONE, 40, true);
        isSince("2", book, 1, 40, 40);
        book.act(3, 0, NONE, 50, false);
        isSince("2, of two", book, 1, 40, 50);
        book.act(2, 0, NONE, 50, true);
        isSince("0 again", book, 2, NONE, NONE);
    }

    private void toldSurely() {
        check.says(9, TERMS, "A THING has the MARKS that it was told with surely, SINCE MINUTE 0.");
        SealBook book = Books.at(LAST, "", 129);
        check.due("a at MINUTE 0, as KNOWN at 0", book.mark(0, 0, 0, 0, 0), 2);
        check.due("h by SCHOOL 1", book.mark(1, 0, 7, LAST, LAST), 2);
        check.due("b", book.mark(0, 0, 1, LAST, LAST), 0);
        isSince("a", book, 0, 0, 0);
        isSince("h", book, 7, 0, 0);
        isSince("b", book, 1, NONE, NONE);
    }

    /** MARK a was 0, 1 (since 2) or 2 (since 0), and is what a RULE makes of it at 9, by an ACT that isn't SURE. */
    private SealBook joined(int ahead, String rule) {
        SealBook book = Books.at(9, "l:1>x+b;c:1>x+a;t:" + rule, ahead == 2 ? 1 : 0, 0);
        book.act(3, 0, NONE, 1, false);
        if (ahead == 1) {
            book.act(2, 0, NONE, 2, false);
        }
        check.due("ahead", Books.mark(book, 0, 0), ahead);
        book.act(0, 0, 1, 9, false);
        return book;
    }

    private void joined() {
        check.says(13, TERMS, "TWO MARKS JOINED (it is one or the other way): 0 if both are 0, "
                + "2 if both are 2, else 1");
        check.due("0 and 0", Books.mark(joined(0, "1>x-a"), 0, 0), 0);
        check.due("0 and 1", Books.mark(joined(0, "xb>x+a"), 0, 0), 1);
        check.due("0 and 2", Books.mark(joined(0, "1>x+a"), 0, 0), 1);
        check.due("1 and 0", Books.mark(joined(1, "1>x-a"), 0, 0), 1);
        check.due("1 and 1", Books.mark(joined(1, "1>x+c"), 0, 0), 1);
        check.due("1 and 2", Books.mark(joined(1, "1>x+a"), 0, 0), 1);
        check.due("2 and 0", Books.mark(joined(2, "1>x-a"), 0, 0), 1);
        check.due("2 and 1", Books.mark(joined(2, "xb>x-a"), 0, 0), 1);
        check.due("2 and 2", Books.mark(joined(2, "1>x+a"), 0, 0), 2);
    }

    private void joinedSince() {
        check.says(14, TERMS, "SINCE the earlier of the earliest and the later of the latest MINUTES "
                + "of those that are not 0.");
        isSince("0 and 0", joined(0, "1>x-a"), 0, NONE, NONE);
        isSince("0 and 1", joined(0, "xb>x+a"), 0, 9, 9);
        isSince("0 and 2", joined(0, "1>x+a"), 0, 9, 9);
        isSince("1 and 0", joined(1, "1>x-a"), 0, 2, 2);
        isSince("1 and 1", joined(1, "1>x+c"), 0, 2, 2);
        isSince("1 and 2", joined(1, "1>x+a"), 0, 2, 9);
        isSince("2 and 0", joined(2, "1>x-a"), 0, 0, 0);
        isSince("2 and 1", joined(2, "xb>x-a"), 0, 0, 0);
        isSince("2 and 2", joined(2, "1>x+a"), 0, 0, 9);
        SealBook book = Books.at(30, "l:1>x+a", 0);
        book.act(3, 0, NONE, 20, false);
        book.act(3, 0, NONE, 10, false);
        isSince("the earlier one told later", book, 0, 10, 20);
        book.act(3, 0, NONE, 15, false);
        isSince("one between", book, 0, 10, 20);
        book.act(3, 0, NONE, 30, false);
        isSince("a third, later one", book, 0, 10, 30);
        book.act(3, 0, NONE, 0, false);
        isSince("the earliest", book, 0, 0, 30);
    }

    private void thingNumber() {
        check.says(9, "A THING with MARKS (bits: a 1, b 2, c 4, ..): its number");
        SealBook book = new SealBook();
        for (int k = 0; k < 20; k++) {
            check.due("number", book.thing(k < 8 ? 1 << k : k == 8 ? 0 : k == 9 ? 255 : k), k);
        }
        for (int k = 0; k < 10; k++) {
            for (int mark = 0; mark < 8; mark++) {
                boolean has = k == mark || k == 9;
                check.due("mark " + mark + " of THING " + k, book.mark(1, k, mark, 0, 0), has ? 2 : 0);
            }
        }
    }

    private void thingNone() {
        check.says(9, "NONE: no such MARKS, 20 are there.");
        int[] marks = {-1, 256, 257, Integer.MIN_VALUE, Integer.MAX_VALUE};
        for (int bits : marks) {
            check.none("thing(" + bits + ")", Books::small, book -> book.thing(bits));
        }
        check.due("thing(0)", Books.small().thing(0), 3);
        check.due("thing(255)", Books.small().thing(255), 3);
        check.none("a 21st THING", Books::manyThings, book -> book.thing(0));
        check.due("THINGS", Books.manyThings().count(2), 20);
    }

    private void whatIs() {
        check.says(13, "WHAT IS: the MARK of a THING by a SCHOOL, at MINUTE v, as KNOWN at MINUTE t: 0, 1, 2");
        SealBook book = Books.at(10, "t:xa>y+a", 1, 0, 0);
        Books.lay(book, 1, false, "t:xa>y+b");
        book.act(0, 0, 1, 5, true);
        book.act(0, 0, 2, 6, false);
        int[][] due = {{0, 1, 0, 2}, {1, 1, 0, 0}, {0, 1, 1, 0}, {1, 1, 1, 2}, {0, 2, 0, 1}, {1, 2, 1, 1},
            {0, 0, 0, 2}};
        for (int[] one : due) {
            check.due("SCHOOL " + one[0] + ", THING " + one[1] + ", MARK " + one[2],
                    book.mark(one[0], one[1], one[2], 10, 10), one[3]);
        }
        check.due("at MINUTE 4", book.mark(0, 1, 0, 4, 10), 0);
        check.due("at MINUTE 5", book.mark(0, 1, 0, 5, 10), 2);
        check.due("as KNOWN at 9", book.mark(0, 1, 0, 10, 9), 0);
        check.due("as KNOWN at 10", book.mark(0, 1, 0, 10, 10), 2);
        check.due("at a MINUTE behind NOW", book.mark(0, 1, 0, LAST, 10), 2);
        check.due("as KNOWN behind NOW", book.mark(0, 1, 0, 10, LAST), 2);
    }

    private void whatIsNone() {
        check.says(13, "NONE: no such ones.");
        SealBook book = Books.at(5, "", 255, 255);
        int[][] wrong = {
            {-1, 0, 0, 0, 0}, {2, 0, 0, 0, 0}, {0, -1, 0, 0, 0}, {0, 2, 0, 0, 0}, {0, 20, 0, 0, 0}, {0, 0, -1, 0, 0},
            {0, 0, 8, 0, 0}, {0, 0, 0, -1, 0}, {0, 0, 0, 1440000, 0}, {0, 0, 0, 0, -1}, {0, 0, 0, 0, 1440000},
        };
        for (int[] one : wrong) {
            check.due("mark" + java.util.Arrays.toString(one),
                    book.mark(one[0], one[1], one[2], one[3], one[4]), NONE);
        }
        for (int far : FAR) {
            check.due("SCHOOL " + far, book.mark(far, 0, 0, 0, 0), NONE);
            check.due("THING " + far, book.mark(0, far, 0, 0, 0), NONE);
            check.due("MARK " + far, book.mark(0, 0, far, 0, 0), NONE);
            check.due("v " + far, book.mark(0, 0, 0, far, 0), NONE);
            check.due("t " + far, book.mark(0, 0, 0, 0, far), NONE);
        }
        check.due("the greatest", book.mark(1, 1, 7, LAST, LAST), 2);
        check.due("the least", book.mark(0, 0, 0, 0, 0), 2);
        check.due("without THINGS", new SealBook().mark(0, 0, 0, 0, 0), NONE);
    }

    private void sinceWhat() {
        check.says(14, "Its SINCE, what 0 the earliest, 1 the latest MINUTE");
        SealBook book = Books.at(30, "l:1>x+a;c:1>x-a", 0);
        book.act(3, 0, NONE, 10, false);
        book.act(3, 0, NONE, 20, false);
        check.due("earliest", book.since(0, 0, 0, 30, 30, 0), 10);
        check.due("latest", book.since(0, 0, 0, 30, 30, 1), 20);
        check.due("latest, at 19", book.since(0, 0, 0, 19, 30, 1), 10);
        check.due("earliest, at 10", book.since(0, 0, 0, 10, 30, 0), 10);
        check.due("not yet, at 9", book.since(0, 0, 0, 9, 30, 0), NONE);
        check.due("not KNOWN at 29", book.since(0, 0, 0, 30, 29, 0), NONE);
    }

    private void sinceNone() {
        check.says(14, "NONE: the MARK is 0, others.");
        SealBook book = Books.at(5, "l:1>x+c;c:1>x-c", 1, 2);
        check.due("MARK b of THING 0", book.since(0, 0, 1, 5, 5, 0), NONE);
        check.due("MARK b of THING 0, latest", book.since(0, 0, 1, 5, 5, 1), NONE);
        book.act(3, 0, NONE, 3, true);
        book.act(2, 0, NONE, 4, true);
        check.due("MARK c at 3", book.since(0, 0, 2, 3, 5, 0), 3);
        check.due("MARK c, gone at 4", book.since(0, 0, 2, 4, 5, 0), NONE);
        int[][] wrong = {
            {-1, 0, 0, 0, 0, 0}, {2, 0, 0, 0, 0, 0}, {0, -1, 0, 0, 0, 0}, {0, 2, 0, 0, 0, 0}, {0, 0, -1, 0, 0, 0},
            {0, 0, 8, 0, 0, 0}, {0, 0, 0, -1, 0, 0}, {0, 0, 0, 1440000, 0, 0}, {0, 0, 0, 0, -1, 0},
            {0, 0, 0, 0, 1440000, 0}, {0, 0, 0, 0, 0, -1}, {0, 0, 0, 0, 0, 2},
        };
        for (int[] one : wrong) {
            check.due("since" + java.util.Arrays.toString(one),
                    book.since(one[0], one[1], one[2], one[3], one[4], one[5]), NONE);
        }
        for (int far : FAR) {
            check.due("what " + far, book.since(0, 0, 0, 0, 0, far), NONE);
            check.due("THING " + far, book.since(0, far, 0, 0, 0, 0), NONE);
        }
        check.due("the MARK told", book.since(0, 0, 0, 0, 0, 0), 0);
    }

    private void lawOfFeasts() {
        check.says(13, TERMS, "For what was done on a FEAST the LAW of FEASTS counts, if it has rules, "
                + "else the common one.");
        SealBook book = Books.at(4 * 1440, "l:1>x+a", 0);
        book.feast(0, 1, 2);
        int[] minutes = {1439, 1440, 2880, 4319, 4320};
        for (int minute : minutes) {
            book.act(3, 0, NONE, minute, true);
            check.due("without rules, at " + minute, book.since(0, 0, 0, minute, LAST, 0), minute);
        }
        Books.lay(book, 0, true, "l:1>x+b");
        int[][] due = {{1439, 1439, NONE}, {1440, 1439, 1440}, {2880, 1439, 2880}, {4319, 1439, 4319},
            {4320, 4320, 4319}};
        for (int[] one : due) {
            check.due("common, at " + one[0], book.since(0, 0, 0, one[0], LAST, 0), one[1]);
            check.due("of FEASTS, at " + one[0], book.since(0, 0, 1, one[0], LAST, 0), one[2]);
        }
        Books.lay(book, 0, true, "c:1>x+b");
        check.due("it has rules, but none of the KIND", book.since(0, 0, 0, 4319, LAST, 0), 1439);
        check.due("so nothing is done", book.mark(0, 0, 1, 4319, LAST), 0);
        book.law(0, true, 0);
        check.due("it has none any more", book.since(0, 0, 0, 4319, LAST, 0), 4319);
        Books.lay(book, 1, true, "l:1>x+c");
        check.due("SCHOOL 1, without a common one, on the FEAST", book.since(1, 0, 2, LAST, LAST, 1), 4319);
        check.due("behind it", book.since(1, 0, 2, 4320, LAST, 0), 4319);
        check.due("the other SCHOOL has its own", book.mark(0, 0, 2, LAST, LAST), 0);
        book = Books.at(2880, "l:1>x+a", 0);
        Books.lay(book, 0, true, "l:1>x+b");
        book.act(3, 0, NONE, 1500, true);
        check.due("no FEAST", book.mark(0, 0, 0, LAST, LAST), 2);
        book.feast(0, 1, 1);
        check.due("a FEAST told later, the common LAW", book.mark(0, 0, 0, LAST, LAST), 0);
        check.due("a FEAST told later, that of FEASTS", book.mark(0, 0, 1, LAST, LAST), 2);
    }

    private void xAndY() {
        check.says(13, TERMS, "x stands for a THING, y for the other one. xa: the MARK a of x, as 0, 1, 2.");
        // THING 0 has a and perhaps c; THING 1 has b.
        String[] asks = {"xa", "xb", "xc", "ya", "yb", "yc"};
        int[] ofFirst = {2, 0, 1, 0, 2, 0};
        int[] ofSecond = {0, 2, 0, 2, 0, 1};
        for (int k = 0; k < asks.length; k++) {
            SealBook book = Books.at(5, "l:1>x+c;t:" + asks[k] + ">x+h", 1, 2);
            book.act(3, 0, NONE, 1, false);
            book.act(0, 0, 1, 2, true);
            check.due(asks[k] + ", THING 0 as x", Books.mark(book, 0, 7), ofFirst[k]);
            check.due(asks[k] + ", THING 1 as x", Books.mark(book, 1, 7), ofSecond[k]);
        }
    }

    private void latelyNot() {
        check.says(13, TERMS, "xa<n: 0 if the MARK is 0;");
        check.due("xc<999999", asked("xc<999999"), 0);
        check.due("xc<0", asked("xc<0"), 0);
        check.due("!xc<999999", asked("!xc<999999"), 2);
        SealBook book = Books.at(9, "c:1>x-a;l:xa<99>x+h", 1);
        book.act(2, 0, NONE, 5, true);
        book.act(3, 0, NONE, 5, true);
        check.due("taken away in this MINUTE", Books.mark(book, 0, 7), 0);
    }

    /** MARK a, SINCE 200 to 205; it is 2, or 1; what a CONDITION makes of it at a MINUTE. */
    private static int lately(boolean surely, String condition, int minute) {
        SealBook book = Books.at(LAST, "l:1>x+a;c:" + condition + ">x+h", 0);
        book.act(3, 0, NONE, 200, surely);
        book.act(3, 0, NONE, 205, false);
        book.act(2, 0, NONE, minute, true);
        return Books.mark(book, 0, 7);
    }

    private void lately() {
        check.says(13, TERMS, "else, with NOW of the ACT's MINUTE: all MINUTES between the two of SINCE "
                + "are less than n ago: 2; none is: 0; else 1;");
        int[][] due = {{205, 2}, {209, 2}, {210, 1}, {214, 1}, {215, 0}, {216, 0}, {LAST, 0}};
        for (int[] one : due) {
            check.due("xa<10 at " + one[0], lately(true, "xa<10", one[0]), one[1]);
        }
        check.due("xa<5 at 205", lately(true, "xa<5", 205), 1);
        check.due("xa<6 at 205", lately(true, "xa<6", 205), 2);
        check.due("xa<1 at 205", lately(true, "xa<1", 205), 1);
        check.due("xa<1 at 206", lately(true, "xa<1", 206), 0);
        check.due("xa<0 at 205", lately(true, "xa<0", 205), 0);
        check.due("xa<000010 at 209", lately(true, "xa<000010", 209), 2);
        check.due("xa<999999 at 1000198", lately(true, "xa<999999", 1000198), 2);
        check.due("xa<999999 at 1000199", lately(true, "xa<999999", 1000199), 1);
        check.due("xa<999999 at 1000203", lately(true, "xa<999999", 1000203), 1);
        check.due("xa<999999 at 1000204", lately(true, "xa<999999", 1000204), 0);
        SealBook book = Books.at(9, "l:xa<1>x+h;c:xa<4>x+g", 1);
        book.act(3, 0, NONE, 0, true);
        book.act(2, 0, NONE, 4, true);
        check.due("told, xa<1 at MINUTE 0", Books.mark(book, 0, 7), 2);
        check.due("told, xa<4 at MINUTE 4", Books.mark(book, 0, 6), 0);
        int[][] ofY = {{209, 2}, {210, 1}, {214, 1}, {215, 0}};
        for (int[] one : ofY) {
            book = Books.at(LAST, "l:1>x+a;t:ya<10>x+h", 0, 0);
            book.act(3, 0, NONE, 200, true);
            book.act(3, 0, NONE, 205, false);
            book.act(0, 1, 0, one[0], true);
            check.due("ya<10 at " + one[0], Books.mark(book, 1, 7), one[1]);
            check.due("ya<10 of one that hasn't a", Books.mark(book, 0, 7), 0);
        }
    }

    private void latelyPerhaps() {
        check.says(13, TERMS, "and 1 instead of 2 if the MARK is 1.");
        int[][] due = {{205, 1}, {209, 1}, {210, 1}, {214, 1}, {215, 0}};
        for (int[] one : due) {
            check.due("xa<10 at " + one[0], lately(false, "xa<10", one[0]), one[1]);
            check.due("!xa<10 at " + one[0], lately(false, "!xa<10", one[0]), 2 - one[1]);
        }
    }

    /** What a CONDITION makes of a THING that has a surely, b perhaps, and c not. */
    private static int asked(String condition) {
        SealBook book = Books.at(9, "l:1>x+b;c:" + condition + ">x+h", 1);
        book.act(3, 0, NONE, 1, false);
        book.act(2, 0, NONE, 2, true);
        return Books.mark(book, 0, 7);
    }

    private void not() {
        check.says(13, TERMS, "!: 2 less that.");
        check.due("!xc", asked("!xc"), 2);
        check.due("!xb", asked("!xb"), 1);
        check.due("!xa", asked("!xa"), 0);
        check.due("!!xa", asked("!!xa"), 2);
        check.due("!!!!!!!!xb", asked("!!!!!!!!xb"), 1);
        check.due("!xa|1", asked("!xa|1"), 2);
        check.due("!(xa|1)", asked("!(xa|1)"), 0);
    }

    private void both() {
        check.says(13, TERMS, "&: the lesser one.");
        String[] of = {"xc", "xb", "xa"};
        for (int one = 0; one < 3; one++) {
            for (int other = 0; other < 3; other++) {
                String condition = of[one] + "&" + of[other];
                check.due(condition, asked(condition), Math.min(one, other));
            }
        }
        check.due("of many", asked("xa&xa&1&xa&xb&xa"), 1);
        check.due("of many, 0", asked("xa&xa&xc&xa&xb&xa"), 0);
        check.due("of 76, the last is the least", asked("1&".repeat(75) + "xb"), 1);
        check.due("of 76, the first is the least", asked("xb" + "&1".repeat(75)), 1);
    }

    private void either() {
        check.says(13, TERMS, "|: the greater one.");
        String[] of = {"xc", "xb", "xa"};
        for (int one = 0; one < 3; one++) {
            for (int other = 0; other < 3; other++) {
                String condition = of[one] + "|" + of[other];
                check.due(condition, asked(condition), Math.max(one, other));
            }
        }
        check.due("of many", asked("xc|xc|xb|xc"), 1);
        check.due("PARTS of PIECES", asked("xb|xa&xc"), 1);
        check.due("PARTS of PIECES", asked("xc&xa|xa"), 2);
        check.due("in brackets", asked("(xb|xa)&xc"), 0);
        check.due("in brackets", asked("xc&(xa|xa)"), 0);
        check.due("of 60, the last is the greatest", asked("xc|".repeat(59) + "xb"), 1);
        check.due("of 60, the first is the greatest", asked("xb" + "|xc".repeat(59)), 1);
        check.due("eight deep", asked("1&(1&(xc|(1&(xc|(1&(xc|(1&(xc|xb))))))))"), 1);
    }

    private void one() {
        check.says(13, TERMS, "1: 2.");
        check.due("1", asked("1"), 2);
        check.due("!1", asked("!1"), 0);
        check.due("1&xb", asked("1&xb"), 1);
    }

    private void withoutY() {
        check.says(13, TERMS, "Without a y (KINDS c, l) all that is asked of y is 0,");
        String[] asks = {"ya", "yb", "ya<999999", "ya|yb&1", "!!yh"};
        for (String ask : asks) {
            for (int kind = 2; kind < 4; kind++) {
                SealBook book = Books.at(9, "tkcl".charAt(kind) + ":" + ask + ">x+h", 255 - 128, 255);
                book.act(kind, 0, NONE, 1, true);
                check.due(ask + ", KIND " + kind, Books.mark(book, 0, 7), 0);
                book = Books.at(9, "tkcl".charAt(kind) + ":!(" + ask + ")>x+h", 255 - 128, 255);
                book.act(kind, 0, NONE, 1, true);
                check.due("not " + ask + ", KIND " + kind, Books.mark(book, 0, 7), 2);
            }
        }
    }

    private void effectOnNoY() {
        check.says(13, TERMS, "and an EFFECT on y is none.");
        for (int kind = 2; kind < 4; kind++) {
            char letter = "tkcl".charAt(kind);
            SealBook book = Books.at(9, letter + ":1>y+a,y-b,x+c,y+c;" + letter + ":1>y-c", 2, 2, 2);
            for (int sure = 0; sure < 2; sure++) {
                book.act(kind, 1, NONE, 1, sure == 1);
                for (int thing = 0; thing < 3; thing++) {
                    check.due("MARK a", Books.mark(book, thing, 0), 0);
                    check.due("MARK b", Books.mark(book, thing, 1), 2);
                    check.due("MARK c", Books.mark(book, thing, 2), thing == 1 ? 1 + sure : 0);
                }
            }
        }
    }
}
