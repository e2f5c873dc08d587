/** What the document says of a book as such, of time, moon and feasts: a test for each sentence. */
final class TimeSentences {
    private static final String TERMS = "Terms 1";
    private static final int LAST = Books.LAST;
    private static final int NONE = SealBook.NONE;
    /** The DAYS on which the MOON's MONTHS begin. */
    private static final int[] BEGINS = {
        0, 29, 59, 88, 118, 147, 177, 206, 236, 265, 295, 324, 354, 383, 413, 442, 472,
        502, 531, 561, 590, 620, 649, 679, 708, 738, 767, 797, 826, 856, 885, 915, 944, 974,
    };

    private final Check check;

    TimeSentences(Check check) {
        this.check = check;
    }

    void ask() {
        useOf512Calls();
        memoryOfItsOwn();
        refusedCalls();
        constant();
        newObject();
        minute();
        day();
        now();
        nowTrue();
        nowNoSuchOne();
        nowPast();
        monthsBegin();
        monthOfAYear();
        moonWhat();
        moonOthers();
        feastMonth();
        feastFirst();
        feastDays();
        feastIntoTheNextMonth();
        feastsSix();
        feastTrue();
        feastNoSuchNumbers();
        feastSixAreThere();
        dayOfSomeFeast();
        isFeastOneAndZero();
        isFeastNoSuchOne();
    }

    private void useOf512Calls() {
        check.says(1, "What it is",
                "An object is used for at most 512 calls after it has been made; what later calls answer is free.");
        SealBook book = Books.at(0, "t:xa>y+a", 1, 0);
        int calls = 5;
        for (int k = 0; k < 200; k++) {
            book.act(0, 0, 1, 0, true);
        }
        for (int k = calls + 200; k < 511; k++) {
            book.now(k);
        }
        check.due("call 512", book.mark(0, 1, 0, 0, 510), 2);
    }

    private void memoryOfItsOwn() {
        check.says(1, "Terms", "All memory is the book's own.");
        SealBook other = Books.at(0, "");
        SealBook book = Books.small();
        int[] due = Snapshot.of(Books.at(0, ""));
        check.is("a book knows nothing of another one's", java.util.Arrays.equals(Snapshot.of(other), due));
        check.is("nor does a later one", java.util.Arrays.equals(Snapshot.of(Books.at(0, "")), due));
        check.is("nor is anything lost by it",
                java.util.Arrays.equals(Snapshot.of(book), Snapshot.of(Books.small())));
    }

    private void refusedCalls() {
        check.says(7, "Terms",
                "A call that is refused (NONE, false) changes nothing but the tape, where it is told.");
        SealBook book = Books.small();
        int[] due = Snapshot.asked(book);
        check.is("nor does a call that asks change anything",
                java.util.Arrays.equals(Snapshot.asked(book), due));
        check.none("law of no SCHOOL (NONE)", Books::small, b -> b.law(2, false, 8));
        book = Books.small();
        check.due("law with a FAULT", book.law(0, false, 19), 1019);
        check.due("the tape is empty behind it", book.count(12), 0);
    }

    private void constant() {
        check.says(1, "Terms", "The constants: `NONE = -1`: There is none.");
        check.due("NONE", SealBook.NONE, -1);
    }

    private void newObject() {
        check.says(1, "NOW 0; no THINGS, LAWS without rules.");
        SealBook book = new SealBook();
        int[] counts = {0, 0, 0, 0, 0, 0, 0, 0, 0, 0, 1, 7, 0, 0};
        for (int what = 0; what < counts.length; what++) {
            check.due("count(" + what + ")", book.count(what), counts[what]);
        }
        for (int school = 0; school < 2; school++) {
            check.due("rules, common", book.rules(school, false), 0);
            check.due("rules, feasts", book.rules(school, true), 0);
        }
        check.due("mark of THING 0", book.mark(0, 0, 0, 0, 0), NONE);
        check.due("quarrel(0, 0)", book.quarrel(0, 0), NONE);
        check.due("look(0, 0)", book.look(0, 0), NONE);
        check.due("recall(0)", book.recall(0), NONE);
        check.due("row", book.row(), 0);
        check.due("visit(0, 0)", book.visit(0, 0), NONE);
        check.due("the first THING", book.thing(0), 0);
    }

    private void minute() {
        check.says(2, TERMS, "A MINUTE is 0 to 1439999");
        check.not("now(-1)", new SealBook().now(-1));
        check.is("now(0)", new SealBook().now(0));
        check.is("now(1439999)", new SealBook().now(1439999));
        check.not("now(1440000)", new SealBook().now(1440000));
        SealBook book = Books.at(LAST, "", 1, 0);
        int[] minutes = {-1, 0, 1439999, 1440000};
        for (int minute : minutes) {
            boolean is = minute >= 0 && minute <= LAST;
            check.due("mark at v " + minute, book.mark(0, 0, 0, minute, 0), is ? 2 : NONE);
            check.due("mark at t " + minute, book.mark(0, 0, 0, 0, minute), is ? 2 : NONE);
            check.due("since at v " + minute, book.since(0, 0, 0, minute, 0, 0), is ? 0 : NONE);
            check.due("since at t " + minute, book.since(0, 0, 0, 0, minute, 0), is ? 0 : NONE);
            check.is("act at " + minute, book.act(0, 0, 1, minute, true) != NONE == is);
            check.is("mistake at " + minute, book.mistake(1, 7, minute) != NONE == is);
            check.is("leads at " + minute, book.leads(0, 0, 0, minute) == (is ? 0 : NONE));
        }
    }

    private int dayVisited(int minute) {
        SealBook book = Books.visited(minute, 1, 1);
        book.draw();
        return book.visit(0, 2);
    }

    private void day() {
        check.says(32, TERMS, "DAY: MINUTE / 1440 (0 to 999).");
        int[][] due = {{0, 0}, {1439, 0}, {1440, 1}, {2879, 1}, {2880, 2}, {1438559, 998}, {1438560, 999}, {LAST, 999}};
        for (int[] one : due) {
            check.due("DAY of MINUTE " + one[0], dayVisited(one[0]), one[1]);
        }
        SealBook book = new SealBook();
        check.due("isFeast(-1)", book.isFeast(-1), NONE);
        check.due("isFeast(0)", book.isFeast(0), 0);
        check.due("isFeast(999)", book.isFeast(999), 0);
        check.due("isFeast(1000)", book.isFeast(1000), NONE);
        check.due("moon(-1, 0)", book.moon(-1, 0), NONE);
        check.due("moon(999, 0)", book.moon(999, 0), 33);
        check.due("moon(1000, 0)", book.moon(1000, 0), NONE);
    }

    private void now() {
        check.says(2, TERMS, "NOW is a MINUTE (0 at first); it goes on when it is told, and never back.");
        SealBook book = new SealBook();
        check.due("NOW at first", book.count(0), 0);
        book.now(5);
        check.due("NOW when told", book.count(0), 5);
        book.now(4);
        check.due("NOW, told one back", book.count(0), 5);
        book.now(6);
        check.due("NOW, told one on", book.count(0), 6);
        book.thing(0);
        book.act(3, 0, NONE, 2, true);
        book.mark(0, 0, 0, 1000, 1000);
        check.due("NOW behind other calls", book.count(0), 6);
        book.now(LAST);
        book.now(0);
        check.due("NOW doesn't begin anew", book.count(0), LAST);
    }

    private void nowTrue() {
        check.says(2, "NOW is a MINUTE: true");
        SealBook book = new SealBook();
        check.is("NOW itself", book.now(0));
        check.is("the next one", book.now(1));
        check.is("it again", book.now(1));
        check.is("the last one", book.now(LAST));
        check.is("the last one again", book.now(LAST));
        check.due("NOW", book.count(0), LAST);
    }

    private void nowNoSuchOne() {
        check.says(2, "false: no such one");
        int[] minutes = {-1, 1440000, Integer.MIN_VALUE, Integer.MAX_VALUE};
        for (int minute : minutes) {
            check.refused("now(" + minute + ")", Books::small, book -> book.now(minute));
        }
    }

    private void nowPast() {
        check.says(2, "it is past.");
        check.refused("now(1499), NOW is 1500", Books::small, book -> book.now(1499));
        check.refused("now(0), NOW is 1500", Books::small, book -> book.now(0));
        check.is("now(1500), NOW is 1500", Books.small().now(1500));
        check.refused("now(1439998) at the last", () -> Books.at(LAST, ""), book -> book.now(LAST - 1));
    }

    private void monthsBegin() {
        check.says(5, TERMS,
                "The MOON's MONTH m (from 0 on) begins on DAY m times 2953 / 100, rounded down");
        SealBook book = new SealBook();
        for (int m = 0; m < BEGINS.length; m++) {
            int begin = BEGINS[m];
            check.due("MONTH of DAY " + begin, book.moon(begin, 0), m);
            check.due("DAY in it of DAY " + begin, book.moon(begin, 2), 0);
            if (m > 0) {
                check.due("MONTH of DAY " + (begin - 1), book.moon(begin - 1, 0), m - 1);
                check.due("DAY in it of " + (begin - 1), book.moon(begin - 1, 2), begin - 1 - BEGINS[m - 1]);
            }
        }
        check.due("MONTH of the last DAY", book.moon(999, 0), 33);
        check.due("DAY in it of the last DAY", book.moon(999, 2), 25);
    }

    private void monthOfAYear() {
        check.says(5, TERMS, "it is month m modulo 12 of a year.");
        SealBook book = new SealBook();
        for (int m = 0; m < BEGINS.length; m++) {
            int due = m < 12 ? m : m < 24 ? m - 12 : m - 24;
            check.due("month of DAY " + BEGINS[m], book.moon(BEGINS[m], 1), due);
        }
        int[][] due = {{353, 11}, {354, 0}, {707, 11}, {708, 0}, {999, 9}};
        for (int[] one : due) {
            check.due("month of DAY " + one[0], book.moon(one[0], 1), one[1]);
        }
    }

    private void moonWhat() {
        check.says(5, "Of a DAY, what 0 the MOON's MONTH in which it is (from 0 on), "
                + "1 which month of a year, 2 which DAY in it (from 0 on).");
        int[][] due = {{0, 0, 0, 0}, {28, 0, 0, 28}, {29, 1, 1, 0}, {58, 1, 1, 29}, {360, 12, 0, 6}, {999, 33, 9, 25}};
        SealBook book = new SealBook();
        for (int[] one : due) {
            for (int what = 0; what < 3; what++) {
                check.due("moon(" + one[0] + ", " + what + ")", book.moon(one[0], what), one[1 + what]);
            }
        }
    }

    private void moonOthers() {
        check.says(5, "NONE for others.");
        SealBook book = new SealBook();
        int[] days = {-1, 1000, Integer.MIN_VALUE, Integer.MAX_VALUE};
        for (int day : days) {
            for (int what = 0; what < 3; what++) {
                check.due("moon(" + day + ", " + what + ")", book.moon(day, what), NONE);
            }
        }
        int[] whats = {-1, 3, Integer.MIN_VALUE, Integer.MAX_VALUE};
        for (int what : whats) {
            check.due("moon(31, " + what + ")", book.moon(31, what), NONE);
        }
    }

    /** A book with one FEAST. */
    private SealBook feast(int month, int first, int days) {
        SealBook book = new SealBook();
        check.is("feast(" + month + ", " + first + ", " + days + ")", book.feast(month, first, days));
        return book;
    }

    /** The FEAST is on the DAYS from one to another one, and not on those ahead and behind. */
    private void isOn(SealBook book, int from, int to) {
        check.due("DAY " + from, book.isFeast(from), 1);
        check.due("DAY " + to, book.isFeast(to), 1);
        check.due("a DAY between", book.isFeast((from + to) / 2), 1);
        if (from > 0) {
            check.due("DAY " + (from - 1), book.isFeast(from - 1), 0);
        }
        if (to < 999) {
            check.due("DAY " + (to + 1), book.isFeast(to + 1), 0);
        }
    }

    private void feastMonth() {
        check.says(3, TERMS, "A FEAST is told as a month of a year (0 to 11)");
        check.not("month -1", new SealBook().feast(-1, 0, 1));
        check.not("month 12", new SealBook().feast(12, 0, 1));
        SealBook least = feast(0, 0, 1);
        SealBook greatest = feast(11, 0, 1);
        for (int year = 0; year < 3; year++) {
            isOn(least, BEGINS[12 * year], BEGINS[12 * year]);
        }
        for (int year = 0; year < 2; year++) {
            isOn(greatest, BEGINS[12 * year + 11], BEGINS[12 * year + 11]);
        }
        isOn(feast(9, 3, 2), 977, 978);
        check.due("month 9 in the first year", feast(9, 3, 2).isFeast(268), 1);
        check.due("no month 10 in the last year", feast(10, 0, 1).isFeast(999), 0);
    }

    private void feastFirst() {
        check.says(3, TERMS, "a first DAY in it (0 to 28)");
        check.not("first -1", new SealBook().feast(0, -1, 1));
        check.not("first 29", new SealBook().feast(0, 29, 1));
        isOn(feast(0, 0, 1), 0, 0);
        isOn(feast(1, 0, 1), 29, 29);
        isOn(feast(0, 28, 1), 28, 28);
        isOn(feast(1, 28, 1), 57, 57);
    }

    private void feastDays() {
        check.says(3, TERMS, "and a number of DAYS (1 to 10");
        check.not("0 DAYS", new SealBook().feast(1, 2, 0));
        check.not("11 DAYS", new SealBook().feast(1, 2, 11));
        isOn(feast(1, 2, 1), 31, 31);
        isOn(feast(1, 2, 2), 31, 32);
        isOn(feast(1, 2, 10), 31, 40);
    }

    private void feastIntoTheNextMonth() {
        check.says(4, TERMS, "they may go on into the next MONTH");
        // Month 0 has 29 DAYS, month 1 has 30.
        isOn(feast(0, 28, 10), 28, 37);
        isOn(feast(1, 28, 10), 57, 66);
        isOn(feast(0, 20, 9), 20, 28);
        isOn(feast(0, 20, 10), 20, 29);
        isOn(feast(1, 21, 9), 50, 58);
        isOn(feast(1, 21, 10), 50, 59);
        SealBook last = feast(11, 28, 10);
        isOn(last, 352, 361);
        isOn(last, 707, 716);
        check.due("the first MONTH has none ahead of it", last.isFeast(0), 0);
        check.due("the first MONTH has none ahead of it", last.isFeast(7), 0);
        isOn(feast(9, 25, 10), 999, 999);
        isOn(feast(8, 28, 10), 972, 981);
    }

    private void feastsSix() {
        check.says(3, TERMS, "6 at most.");
        SealBook book = new SealBook();
        for (int k = 0; k < 6; k++) {
            check.is("FEAST " + (k + 1), book.feast(k, 3, 1));
        }
        check.not("the seventh", book.feast(6, 3, 1));
        for (int k = 0; k < 7; k++) {
            check.due("of month " + k, book.isFeast(BEGINS[k] + 3), k < 6 ? 1 : 0);
        }
    }

    private void feastTrue() {
        check.says(3, "A FEAST: true");
        SealBook book = new SealBook();
        check.is("the least numbers", book.feast(0, 0, 1));
        check.is("the greatest numbers", book.feast(11, 28, 10));
        check.is("one that is there", book.feast(0, 0, 1));
        check.due("all three count", book.count(1), 3);
    }

    private void feastNoSuchNumbers() {
        check.says(3, "false: no such numbers");
        int[] months = {-1, 12, Integer.MIN_VALUE, Integer.MAX_VALUE};
        int[] firsts = {-1, 29, Integer.MIN_VALUE, Integer.MAX_VALUE};
        int[] lengths = {0, 11, -1, Integer.MIN_VALUE, Integer.MAX_VALUE};
        for (int month : months) {
            check.refused("month " + month, Books::small, book -> book.feast(month, 0, 1));
        }
        for (int first : firsts) {
            check.refused("first " + first, Books::small, book -> book.feast(0, first, 1));
        }
        for (int days : lengths) {
            check.refused("DAYS " + days, Books::small, book -> book.feast(0, 0, days));
        }
    }

    private void feastSixAreThere() {
        check.says(3, "6 are there.");
        check.refused("the seventh", Books::manyFeasts, book -> book.feast(7, 0, 1));
        check.refused("one that is there", Books::manyFeasts, book -> book.feast(0, 0, 1));
        check.due("FEASTS", Books.manyFeasts().count(1), 6);
    }

    private void dayOfSomeFeast() {
        check.says(4, TERMS, "A DAY is FEAST if some FEAST has it.");
        SealBook none = new SealBook();
        for (int day = 0; day < 500; day++) {
            check.due("without FEASTS, DAY " + day, none.isFeast(day), 0);
        }
        SealBook book = new SealBook();
        book.feast(0, 0, 3);
        book.feast(0, 2, 3);
        book.feast(0, 7, 1);
        int[] due = {1, 1, 1, 1, 1, 0, 0, 1, 0};
        for (int day = 0; day < due.length; day++) {
            check.due("DAY " + day, book.isFeast(day), due[day]);
        }
    }

    private void isFeastOneAndZero() {
        check.says(4, "Whether a DAY is FEAST: 1, 0");
        SealBook book = feast(2, 4, 2);
        int[][] due = {{62, 0}, {63, 1}, {64, 1}, {65, 0}, {416, 0}, {417, 1}, {418, 1}, {419, 0}, {771, 1}};
        for (int[] one : due) {
            check.due("isFeast(" + one[0] + ")", book.isFeast(one[0]), one[1]);
        }
    }

    private void isFeastNoSuchOne() {
        check.says(4, "NONE: no such one.");
        SealBook book = feast(0, 0, 1);
        int[] days = {-1, 1000, Integer.MIN_VALUE, Integer.MAX_VALUE};
        for (int day : days) {
            check.due("isFeast(" + day + ")", book.isFeast(day), NONE);
        }
        check.due("isFeast(0)", book.isFeast(0), 1);
        check.due("isFeast(999)", book.isFeast(999), 0);
    }
}
