/** What the document says of quarrels, and of mistakes that lead on and are mended: a test for each sentence. */
final class TraceSentences {
    private static final String TERMS = "Terms 3";
    private static final int LAST = Books.LAST;
    private static final int NONE = SealBook.NONE;
    private static final int[] FAR = {Integer.MIN_VALUE, Integer.MAX_VALUE};

    private final Check check;

    TraceSentences(Check check) {
        this.check = check;
    }

    void ask() {
        quarrelUnlike();
        quarrelWhat();
        quarrelOthers();
        withAndWithout();
        otherwise();
        leadsHow();
        leadsNone();
        reachedFirst();
        notItsOwnThing();
        reachedBy();
        reachedNone();
        wayToTheMistake();
        wayEnds();
        wayThing();
        wayNone();
        mendAsOften();
        mendTillAllMarks();
        mendNotByFive();
        mendHowOften();
        mendNone();
    }

    private void quarrelUnlike() {
        check.says(15, TERMS, "QUARREL: THINGS and MARKS of which the SCHOOLS hold unlike (0, 1, 2) at NOW, "
                + "as KNOWN now; by THINGS, then MARKS.");
        SealBook book = Books.at(50, "l:1>x+h,x+b", 1, 1, 1);
        check.due("none", book.count(13), 0);
        book.act(3, 2, NONE, 10, false);
        book.act(3, 0, NONE, 20, true);
        int[][] due = {{0, 1, 2}, {0, 7, 2}, {2, 1, 1}, {2, 7, 1}};
        check.due("how many", book.count(13), 4);
        for (int i = 0; i < due.length; i++) {
            for (int what = 0; what < 3; what++) {
                check.due("QUARREL " + i + ", " + what, book.quarrel(i, what), due[i][what]);
            }
        }
        Books.lay(book, 1, false, "l:1>x+b");
        check.due("of b they hold alike now", book.quarrel(1, 0), 2);
        Books.lay(book, 1, false, "l:1>x+b,x+h;l:1>x+b,x-h,x+h");
        check.due("alike in all", book.count(13), 0);
        book.act(2, 1, NONE, 30, true);
        Books.lay(book, 1, false, "l:1>x+b,x+h;c:1>x-a");
        check.due("of THING 1 at NOW", book.quarrel(0, 0), 1);
        book.strike(2);
        check.due("not as KNOWN now", book.quarrel(0, 0), NONE);
        // Alike as 2, though since another MINUTE.
        Books.lay(book, 1, false, "l:1>x+b,x+h,x+a");
        check.due("alike, but for the SINCE", book.count(13), 0);
    }

    private void quarrelWhat() {
        check.says(15, "QUARREL i, what 0 the THING, 1 the MARK, 2 what SCHOOL 0 holds, 3 what SCHOOL 1 holds.");
        SealBook book = Books.at(50, "l:1>x+a;c:1>x-b", 8, 2);
        Books.lay(book, 1, false, "l:1>x-d,x+c;c:1>x+h");
        book.act(3, 0, NONE, 10, true);
        book.act(2, 1, NONE, 10, false);
        int[][] due = {{0, 0, 2, 0}, {0, 2, 0, 2}, {0, 3, 2, 0}, {1, 1, 1, 2}, {1, 7, 0, 1}};
        for (int i = 0; i < due.length; i++) {
            for (int what = 0; what < 4; what++) {
                check.due("quarrel(" + i + ", " + what + ")", book.quarrel(i, what), due[i][what]);
            }
        }
        check.due("quarrel(5, 0)", book.quarrel(5, 0), NONE);
        check.due("as many as there can be", manyQuarrels().quarrel(159, 0), 19);
        check.due("the last one's MARK", manyQuarrels().quarrel(159, 1), 7);
        check.due("one of the middle", manyQuarrels().quarrel(83, 0) * 8 + manyQuarrels().quarrel(83, 1), 83);
    }

    /** 20 THINGS, each with all MARKS by SCHOOL 0, and none by SCHOOL 1. */
    private static SealBook manyQuarrels() {
        SealBook book = Books.at(5, "t:1>x+a,x+b,x+c,x+d;t:1>x+e,x+f,x+g,x+h", new int[20]);
        for (int k = 0; k < 20; k += 2) {
            book.act(0, k, k + 1, 1, true);
        }
        return book;
    }

    private void quarrelOthers() {
        check.says(15, "NONE for others.");
        SealBook book = manyQuarrels();
        check.due("quarrel(160, 0)", book.quarrel(160, 0), NONE);
        check.due("quarrel(-1, 0)", book.quarrel(-1, 0), NONE);
        for (int far : FAR) {
            check.due("quarrel(" + far + ", 0)", book.quarrel(far, 0), NONE);
            check.due("quarrel(0, " + far + ")", book.quarrel(0, far), NONE);
        }
        check.due("quarrel(0, -1)", book.quarrel(0, -1), NONE);
        check.due("quarrel(0, 4)", book.quarrel(0, 4), NONE);
        check.due("quarrel(0, 0) of none", Books.at(5, "l:1>x+a", 255).quarrel(0, 0), NONE);
        check.due("without THINGS", new SealBook().quarrel(0, 0), NONE);
    }

    private void withAndWithout() {
        check.says(16, TERMS, "A MISTAKE LEADS ON, by a SCHOOL, as KNOWN now: WHAT IS with it "
                + "and WHAT WOULD BE without it (all other ones as they are):");
        SealBook book = Books.at(50, "t:xa>y+a;t:xb>y+b", 0, 0, 0);
        book.mistake(0, 0, 10);
        book.mistake(0, 1, 10);
        book.mistake(1, 0, 30);
        book.act(0, 0, 1, 20, true);
        check.due("MISTAKE 0", book.leads(0, 0, 1, 20), 2);
        check.due("MISTAKE 1", book.leads(1, 0, 1, 20), 2);
        check.due("MISTAKE 0, where b differs by MISTAKE 1 alone", book.leads(0, 0, 1, 29), 2);
        check.due("behind MISTAKE 2 it would have a, too", book.leads(0, 0, 1, 30), 0);
        check.due("b still differs", book.leads(1, 0, 1, 30), 2);
        check.due("MISTAKE 2 makes nothing otherwise", book.leads(2, 0, 1, 30), 0);
        check.due("by SCHOOL 1, without a LAW", book.leads(0, 1, 1, 20), 0);
        check.due("by SCHOOL 1 its own THING", book.leads(0, 1, 0, 10), 2);
        book.strike(0);
        check.due("as KNOWN now", book.leads(0, 0, 1, 20), 0);
    }

    /** THING 1 is touched by THING 0, which has a by MISTAKE. */
    private static SealBook led(String law, int marks, boolean perhapsToo, boolean sure) {
        SealBook book = Books.at(50, "k:1>x+a;" + law, 0, marks, 0);
        if (perhapsToo) {
            book.act(1, 1, 2, 5, false);
        }
        book.mistake(0, 0, 10);
        book.act(0, 0, 1, 20, sure);
        return book;
    }

    private void otherwise() {
        check.says(16, TERMS, "a THING is otherwise at a MINUTE surely (2) if some MARK is 0 in one "
                + "and 2 in the other one, perhaps (1) if some is unlike, but none so, else not (0).");
        check.due("2 with it, 0 without", led("t:xa>y+a", 0, false, true).leads(0, 0, 1, 20), 2);
        check.due("0 with it, 2 without", led("t:xa>y-c", 4, false, true).leads(0, 0, 1, 20), 2);
        check.due("1 with it, 0 without", led("t:xa>y+a", 0, false, false).leads(0, 0, 1, 20), 1);
        check.due("1 with it, 2 without", led("t:xa>y-c", 4, false, false).leads(0, 0, 1, 20), 1);
        check.due("2 with it, 1 without", led("t:xa>y+a", 0, true, true).leads(0, 0, 1, 20), 1);
        check.due("0 with it, 1 without", led("t:xa>y-a", 0, true, true).leads(0, 0, 1, 20), 1);
        check.due("alike 0", led("t:xb>y+a", 0, false, true).leads(0, 0, 1, 20), 0);
        check.due("alike 1", led("t:xa>y+a", 0, true, false).leads(0, 0, 1, 20), 0);
        check.due("alike 2, but for the SINCE", led("t:xa>y+a", 1, false, true).leads(0, 0, 1, 20), 0);
        check.due("one MARK perhaps, one surely", led("t:xa>y+a,y+b", 0, true, true).leads(0, 0, 1, 20), 2);
        check.due("one MARK surely, one perhaps", led("t:xa>y+a,y-h", 128, true, true).leads(0, 0, 1, 20), 2);
        check.due("the MINUTE ahead", led("t:xa>y+a", 0, false, true).leads(0, 0, 1, 19), 0);
    }

    private void leadsHow() {
        check.says(16, "How MISTAKE i LEADS ON to a THING at MINUTE v, by a SCHOOL: 0, 1, 2");
        SealBook book = Books.at(50, "t:xa>y+a;c:1>x-a", 0, 0, 0);
        book.mistake(0, 0, 10);
        book.act(0, 0, 1, 20, true);
        book.act(0, 0, 2, 25, false);
        book.act(2, 1, NONE, 30, true);
        book.act(2, 0, NONE, 35, true);
        int[][] due = {{0, 0, 0}, {0, 9, 0}, {0, 10, 2}, {0, 34, 2}, {0, 35, 0}, {0, LAST, 0}, {1, 19, 0}, {1, 20, 2},
            {1, 29, 2}, {1, 30, 0}, {2, 24, 0}, {2, 25, 1}, {2, LAST, 1}};
        for (int[] one : due) {
            check.due("to THING " + one[0] + " at " + one[1], book.leads(0, 0, one[0], one[1]), one[2]);
        }
    }

    private void leadsNone() {
        check.says(16, "NONE: no such ones.");
        // One MISTAKE, three THINGS.
        SealBook book = Books.small();
        int[][] wrong = {{-1, 0, 0, 5}, {1, 0, 0, 5}, {10, 0, 0, 5}, {0, -1, 0, 5}, {0, 2, 0, 5}, {0, 0, -1, 5},
            {0, 0, 3, 5}, {0, 0, 20, 5}, {0, 0, 0, -1}, {0, 0, 0, 1440000}};
        for (int[] one : wrong) {
            check.due("leads" + java.util.Arrays.toString(one), book.leads(one[0], one[1], one[2], one[3]), NONE);
        }
        for (int far : FAR) {
            check.due("MISTAKE " + far, book.leads(far, 0, 0, 5), NONE);
            check.due("SCHOOL " + far, book.leads(0, far, 0, 5), NONE);
            check.due("THING " + far, book.leads(0, 0, far, 5), NONE);
            check.due("v " + far, book.leads(0, 0, 0, far), NONE);
        }
        check.due("the greatest", book.leads(0, 1, 2, LAST), 2);
        check.due("MISTAKE 9 of 10", Books.manyMistakes().leads(9, 0, 1, 300), 0);
        check.due("MISTAKE 10 of 10", Books.manyMistakes().leads(10, 0, 1, 300), NONE);
    }

    private void reachedFirst() {
        check.says(17, TERMS, "The ACT by which it was reached: the first one, in the order told above, up to NOW, "
                + "behind which it is otherwise;");
        SealBook book = Books.at(50, "t:xa>y+a;c:1>x-a", 0, 0, 0);
        book.mistake(0, 0, 10);
        book.act(0, 0, 1, 30, true);
        book.act(0, 0, 1, 20, true);
        book.act(0, 0, 1, 9, true);
        book.act(0, 0, 1, 20, true);
        check.due("by MINUTES, of one MINUTE by numbers", book.reached(0, 0, 1), 1);
        book.act(2, 1, NONE, 25, true);
        check.due("though cleansed later", book.reached(0, 0, 1), 1);
        book.strike(1);
        check.due("the next one of this MINUTE", book.reached(0, 0, 1), 3);
        book.strike(3);
        check.due("the one behind", book.reached(0, 0, 1), 0);
        book.strike(0);
        check.due("none", book.reached(0, 0, 1), NONE);
        book.act(0, 2, 0, 10, true);
        check.due("of the MINUTE of the MISTAKE", book.reached(0, 0, 2), 5);
        book = Books.at(50, "t:xa>y+a", 0, 0);
        book.mistake(0, 0, 10);
        book.act(0, 0, 1, 50, false);
        check.due("at NOW, perhaps", book.reached(0, 0, 1), 0);
        check.due("the last of 200", manyTouches(199).reached(0, 0, 1), 199);
    }

    /** 200 ACTS, of which that with a number alone is one of THINGS 0 and 1. */
    private static SealBook manyTouches(int number) {
        SealBook book = Books.at(300, "t:xa>y+a", 0, 0, 0, 0);
        book.mistake(0, 0, 0);
        for (int k = 0; k < 200; k++) {
            book.act(0, k == number ? 0 : 2, k == number ? 1 : 3, k, true);
        }
        return book;
    }

    private void notItsOwnThing() {
        check.says(17, TERMS, "NONE for the THING of the MISTAKE itself.");
        SealBook book = Books.at(50, "t:xa>y+b;t:xb>y+c", 0, 0);
        book.mistake(0, 0, 10);
        book.act(0, 0, 1, 20, true);
        book.act(0, 0, 1, 30, true);
        check.due("the other one", book.reached(0, 0, 1), 0);
        check.due("its THING, by an ACT otherwise in c, too", book.reached(0, 0, 0), NONE);
        check.due("it is", book.mark(0, 0, 2, 50, 50), 2);
    }

    private void reachedBy() {
        check.says(17, "The ACT by which MISTAKE i reached a THING, by a SCHOOL");
        SealBook book = Books.at(50, "t:xa>y+a", 0, 0, 0);
        Books.lay(book, 1, false, "k:xa>y+a");
        book.mistake(0, 0, 10);
        book.mistake(2, 0, 10);
        book.act(3, 0, NONE, 11, true);
        book.act(0, 0, 1, 12, true);
        book.act(1, 0, 1, 13, true);
        book.act(1, 1, 2, 14, true);
        int[][] due = {{0, 0, 1, 1}, {0, 1, 1, 2}, {0, 0, 2, NONE}, {0, 1, 2, NONE}, {1, 0, 1, NONE}, {1, 1, 1, NONE}};
        for (int[] one : due) {
            check.due("MISTAKE " + one[0] + ", SCHOOL " + one[1] + ", THING " + one[2],
                    book.reached(one[0], one[1], one[2]), one[3]);
        }
        book.strike(2);
        check.due("MISTAKE 1 then", book.reached(1, 1, 1), 3);
        check.due("MISTAKE 0 then", book.reached(0, 1, 1), NONE);
    }

    private void reachedNone() {
        check.says(17, "NONE: none (its own THING, not reached, too), no such ones.");
        SealBook book = Books.small();
        check.due("reached(0, 0, 1)", book.reached(0, 0, 1), NONE);
        check.due("its own THING", book.reached(0, 0, 2), NONE);
        int[][] wrong = {{-1, 0, 1}, {1, 0, 1}, {0, -1, 1}, {0, 2, 1}, {0, 0, -1}, {0, 0, 3}, {0, 0, 20}};
        for (int[] one : wrong) {
            check.due("reached" + java.util.Arrays.toString(one), book.reached(one[0], one[1], one[2]), NONE);
        }
        for (int far : FAR) {
            check.due("MISTAKE " + far, book.reached(far, 0, 1), NONE);
            check.due("SCHOOL " + far, book.reached(0, far, 1), NONE);
            check.due("THING " + far, book.reached(0, 0, far), NONE);
        }
        check.due("no MISTAKES", Books.at(5, "", 1).reached(0, 0, 0), NONE);
    }

    private void isWay(String what, SealBook book, int thing, int... due) {
        for (int k = 0; k < due.length; k++) {
            check.due(what + ", " + k, book.way(0, 0, thing, k), due[k]);
        }
        check.due(what + ", behind it", book.way(0, 0, thing, due.length), NONE);
    }

    /** THING 0 has the MISTAKE, each THING touches the next one. */
    private static SealBook row(int things) {
        SealBook book = Books.at(50, "t:xa>y+a", new int[things]);
        book.mistake(0, 0, 0);
        for (int k = 1; k < things; k++) {
            book.act(0, k % 2 == 0 ? k : k - 1, k % 2 == 0 ? k - 1 : k, k, true);
        }
        return book;
    }

    private void wayToTheMistake() {
        check.says(18, TERMS, "Its WAY: it, then the other THING of that ACT, then the other THING of the ACT "
                + "by which that one was reached, and so on to the THING of the MISTAKE");
        isWay("one step", row(2), 1, 1, 0);
        isWay("two steps", row(3), 2, 2, 1, 0);
        int[] all = new int[20];
        for (int k = 0; k < 20; k++) {
            all[k] = 19 - k;
        }
        isWay("all THINGS", row(20), 19, all);
        isWay("from the middle", row(20), 3, 3, 2, 1, 0);
        // THING 2 was reached by an ACT told last, but done first.
        SealBook book = row(4);
        book.act(0, 0, 3, 40, true);
        book.act(0, 0, 2, 1, true);
        isWay("by the ACTS that reached first", book, 3, 3, 2, 0);
    }

    private void wayEnds() {
        check.says(18, TERMS, "(or to one without another THING, or that comes again: there it ends; it is told, too, "
                + "where it is not one that comes again).");
        // THING 1 has a either way, but SINCE another MINUTE; a cleansing then makes it otherwise.
        SealBook book = Books.at(100, "t:xa>y+a;c:xa<10>x-a;k:!xa>y+b", 0, 1, 0);
        book.mistake(0, 0, 10);
        book.act(0, 0, 1, 20, true);
        book.act(2, 1, NONE, 25, true);
        book.act(1, 1, 2, 30, true);
        check.due("reached by an ACT without another THING", book.reached(0, 0, 1), 1);
        isWay("to it", book, 1, 1);
        isWay("over it", book, 2, 2, 1);
        // THINGS 1 and 2 become otherwise by one and the same ACT.
        book = Books.at(100, "t:xa>y+a;k:xa<15>y+b,x+b", 0, 1, 0);
        book.mistake(0, 0, 10);
        book.act(0, 0, 1, 20, true);
        book.act(1, 1, 2, 30, true);
        isWay("THING 2 comes again", book, 2, 2, 1);
        isWay("THING 1 comes again", book, 1, 1, 2);
        // Read so: THING 1 was not reached (its MARKS are alike, but for the SINCE), so there is no ACT to go on by.
        book = Books.at(100, "t:xa>y+a;k:xa<15>y+b", 0, 1, 0);
        book.mistake(0, 0, 10);
        book.act(0, 0, 1, 20, true);
        book.act(1, 1, 2, 30, true);
        isWay("over one that was not reached", book, 2, 2, 1);
    }

    private void wayThing() {
        check.says(18, "The k-th THING of the WAY (0: it)");
        SealBook book = row(4);
        for (int thing = 0; thing < 4; thing++) {
            for (int k = 0; k <= thing; k++) {
                check.due("way(0, 0, " + thing + ", " + k + ")", book.way(0, 0, thing, k), thing - k);
            }
        }
    }

    private void wayNone() {
        check.says(18, "NONE: there is none such (none at all if it was not reached, and is not the MISTAKE's).");
        SealBook book = row(4);
        check.due("way(0, 0, 3, 4)", book.way(0, 0, 3, 4), NONE);
        check.due("way(0, 0, 3, -1)", book.way(0, 0, 3, -1), NONE);
        check.due("way(0, 0, 0, 0), the MISTAKE's", book.way(0, 0, 0, 0), 0);
        check.due("way(0, 0, 0, 1)", book.way(0, 0, 0, 1), NONE);
        check.due("by SCHOOL 1 not reached", book.way(0, 1, 1, 0), NONE);
        check.due("by SCHOOL 1 the MISTAKE's", book.way(0, 1, 0, 0), 0);
        check.due("way(0, 0, 19, 19)", row(20).way(0, 0, 19, 19), 0);
        check.due("way(0, 0, 19, 20)", row(20).way(0, 0, 19, 20), NONE);
        int[][] wrong = {{-1, 0, 1}, {1, 0, 1}, {0, -1, 1}, {0, 2, 1}, {0, 0, -1}, {0, 0, 4}};
        for (int[] one : wrong) {
            check.due("way" + java.util.Arrays.toString(one), book.way(one[0], one[1], one[2], 0), NONE);
        }
        for (int far : FAR) {
            check.due("MISTAKE " + far, book.way(far, 0, 1, 0), NONE);
            check.due("SCHOOL " + far, book.way(0, far, 1, 0), NONE);
            check.due("THING " + far, book.way(0, 0, far, 0), NONE);
            check.due("k " + far, book.way(0, 0, 1, far), NONE);
        }
        // Cleansed since: it is not otherwise any more, but it was reached.
        book = Books.at(50, "t:xa>y+a;c:1>x-a", 0, 0);
        book.mistake(0, 0, 10);
        book.act(0, 0, 1, 20, true);
        book.act(2, 1, NONE, 30, true);
        isWay("reached, and cleansed since", book, 1, 1, 0);
    }

    /** A law by which THING 1 gets so many MARKS, each of which goes by a cleansing of its own. */
    private static String mended(int times) {
        StringBuilder law = new StringBuilder("k:1>x+g");
        for (int k = 0; k < times; k++) {
            law.append(k % 4 == 0 ? ";t:xh>y+" : ",y+").append((char) ('a' + k));
        }
        for (int k = 0; k < times; k++) {
            law.append(";c:1");
            for (int other = 0; other < k; other++) {
                law.append("&!x").append((char) ('a' + other));
            }
            law.append(">x-").append((char) ('a' + k));
        }
        return law.toString();
    }

    private static SealBook toMend(int times) {
        SealBook book = Books.at(200, mended(times), 0, 0);
        book.mistake(0, 7, 10);
        book.act(0, 0, 1, 20, true);
        return book;
    }

    private void mendAsOften() {
        check.says(19, TERMS, "TO MEND a THING, by a SCHOOL, of a MISTAKE: as often cleansed (c), SURELY, at NOW, "
                + "behind all that is KNOWN, as need be (0 to 5 times),");
        for (int times = 0; times <= 5; times++) {
            check.due(times + " times", toMend(times).mend(0, 0, 1), times);
        }
        SealBook book = Books.at(30, "t:xa>y+a;c:xa<10>x-a;k:xa>x+b", 0, 0);
        book.mistake(0, 0, 10);
        book.act(0, 0, 1, 21, true);
        check.due("at NOW, 9 ago", book.mend(0, 0, 1), 1);
        book.now(31);
        check.due("at NOW, 10 ago", book.mend(0, 0, 1), NONE);
        book.act(0, 0, 1, 31, true);
        check.due("behind an ACT of NOW", book.mend(0, 0, 1), 1);
        check.due("by SCHOOL 1 nothing is to be mended", book.mend(0, 1, 1), 0);
        check.due("by SCHOOL 1 the MISTAKE's can't be", book.mend(0, 1, 0), NONE);
        book.feast(0, 0, 1);
        Books.lay(book, 0, true, "t:xa>y+a;c:1>x-c;c:!xc>x-a");
        check.due("by the LAW of NOW", book.mend(0, 0, 1), 1);
        check.due("nothing was done by it", book.count(3), 2);
        check.due("the MARK is still there", book.mark(0, 1, 0, 31, 31), 2);
        book = Books.at(1439, "t:xa>y+a", 0, 0);
        book.feast(0, 1, 1);
        Books.lay(book, 0, true, "c:1>x-a");
        book.mistake(0, 0, 10);
        book.act(0, 0, 1, 20, true);
        check.due("on the DAY ahead of a FEAST", book.mend(0, 0, 1), NONE);
        book.now(1440);
        check.due("on the FEAST", book.mend(0, 0, 1), 1);
        book.now(2880);
        check.due("on the DAY behind it", book.mend(0, 0, 1), NONE);
    }

    private void mendTillAllMarks() {
        check.says(19, TERMS, "till all its MARKS are as they would be without the MISTAKE (not cleansed there);");
        SealBook book = led("t:xa>y+a;c:1>x-a,x-c", 4, false, true);
        check.due("c would be there, and is gone by cleansing", book.mend(0, 0, 1), NONE);
        book = led("t:xa>y+a;c:1>x-a", 4, false, true);
        check.due("c stays", book.mend(0, 0, 1), 1);
        book = led("t:xa>y-c;c:1>x+c", 4, false, true);
        check.due("c must come again", book.mend(0, 0, 1), 1);
        check.due("it is not there now", book.mark(0, 1, 2, 20, 50), 0);
        book = led("t:xa>y+a;c:1>x-a", 0, true, true);
        check.due("it would be perhaps there", book.mend(0, 0, 1), NONE);
        book = led("t:xa>y+a;c:1>x-a", 0, true, false);
        check.due("it would be perhaps there, and is", book.mend(0, 0, 1), 0);
        book = led("t:xa>y+a;t:1>y+b;c:xb>x-b;c:!xb>x-a", 0, false, true);
        check.due("b, which would be there, goes first", book.mend(0, 0, 1), NONE);
    }

    private void mendNotByFive() {
        check.says(19, TERMS, "NONE if five times don't do.");
        check.due("five do", toMend(5).mend(0, 0, 1), 5);
        check.due("six would", toMend(6).mend(0, 0, 1), NONE);
        check.due("no RULE helps", led("t:xa>y+a", 0, false, true).mend(0, 0, 1), NONE);
    }

    private void mendHowOften() {
        check.says(19, "TO MEND: how often");
        check.due("THING 1", toMend(3).mend(0, 0, 1), 3);
        SealBook book = row(3);
        Books.lay(book, 0, false, "t:xa>y+a;c:1>x-a");
        for (int thing = 0; thing < 3; thing++) {
            check.due("THING " + thing, book.mend(0, 0, thing), 1);
        }
        book.act(2, 1, NONE, 50, true);
        check.due("cleansed already", book.mend(0, 0, 1), 0);
        book.act(2, 2, NONE, 49, false);
        check.due("perhaps cleansed already", book.mend(0, 0, 2), 1);
    }

    private void mendNone() {
        check.says(19, "NONE: it can't, no such ones.");
        SealBook book = toMend(1);
        check.due("the MISTAKE's, by a RULE for another MARK", book.mend(0, 0, 0), NONE);
        int[][] wrong = {{-1, 0, 1}, {1, 0, 1}, {0, -1, 1}, {0, 2, 1}, {0, 0, -1}, {0, 0, 2}, {0, 0, 20}};
        for (int[] one : wrong) {
            check.due("mend" + java.util.Arrays.toString(one), book.mend(one[0], one[1], one[2]), NONE);
        }
        for (int far : FAR) {
            check.due("MISTAKE " + far, book.mend(far, 0, 1), NONE);
            check.due("SCHOOL " + far, book.mend(0, far, 1), NONE);
            check.due("THING " + far, book.mend(0, 0, far), NONE);
        }
        check.due("no MISTAKES", Books.at(5, "", 1).mend(0, 0, 0), NONE);
    }
}
