/** Books with what a test needs in them. */
final class Books {
    static final int LAST = 1439999;
    static final int NONE = SealBook.NONE;

    private Books() {
    }

    /** A book at a minute, with a common law of school 0 and things with marks. */
    static SealBook at(int now, String law, int... things) {
        SealBook book = new SealBook();
        book.now(now);
        lay(book, 0, false, law);
        for (int marks : things) {
            book.thing(marks);
        }
        return book;
    }

    /** Makes a text a law; the text is one without a fault. */
    static void lay(SealBook book, int school, boolean feast, String law) {
        int fault = Texts.law(book, school, feast, law);
        if (fault != 0) {
            System.out.println("the law " + law + " has a fault: " + fault);
        }
    }

    /** A mark by school 0, when all is done and known. */
    static int mark(SealBook book, int thing, int mark) {
        return book.mark(0, thing, mark, LAST, LAST);
    }

    /** A small book with something of everything. */
    static SealBook small() {
        SealBook book = at(1400, "t:xa>y+a;c:1>x-a", 1, 0, 128);
        lay(book, 1, false, "t:xa>y+b");
        lay(book, 0, true, "t:1>x+c;c:1>x-c");
        book.feast(0, 1, 2);
        book.act(0, 0, 1, 100, true);
        book.act(0, 0, 2, 200, false);
        book.mistake(2, 0, 150);
        book.act(0, 2, 1, 300, true);
        book.kitchen(0, 1, 10, 20);
        book.kitchen(0, 2, 30, 5);
        book.visitor(0, 4);
        book.visitor(0, 2);
        book.seed(4711, 3);
        book.draw();
        book.now(1500);
        book.strike(1);
        book.draw();
        book.trust(0, 1, true);
        book.trust(1, 2, true);
        book.lot(0, 50);
        book.pass(0, 0, 1, 20, true);
        book.word(0, 1, 0, true);
        book.word(1, 2, 7, false);
        Texts.feed(book, "t:xa>y+a;l:ya|xb>x-c");
        return book;
    }

    static SealBook manyThings() {
        return at(0, "", new int[20]);
    }

    static SealBook manyFeasts() {
        SealBook book = new SealBook();
        for (int k = 0; k < 6; k++) {
            book.feast(k, k, 1);
        }
        return book;
    }

    static SealBook manyActs() {
        SealBook book = at(300, "t:xa>y+a", 1, 0);
        for (int k = 0; k < 200; k++) {
            book.act(0, 0, 1, k, true);
        }
        return book;
    }

    static SealBook manyMistakes() {
        SealBook book = at(300, "t:xa>y+a", 0, 0);
        for (int k = 0; k < 10; k++) {
            book.mistake(0, 0, k);
        }
        return book;
    }

    /** A full tape: a law of 240 bytes, the longest that there is. */
    static SealBook fullTape() {
        SealBook book = new SealBook();
        Texts.feed(book, longestLaw());
        return book;
    }

    /** 23 rules of nine bytes with a ; behind each, and a last one of ten bytes. */
    static String longestLaw() {
        return "t:1&1>x+a;".repeat(23) + "t:!1&1>x+b";
    }

    /** Kitchens of school 0, each with its own overseer; kitchen 0 has a lot of 100 units. */
    static SealBook kitchens(int many) {
        SealBook book = new SealBook();
        for (int k = 0; k < many; k++) {
            book.kitchen(0, k, 10 * k, k);
        }
        book.lot(0, 100);
        return book;
    }

    static SealBook manyLots() {
        SealBook book = kitchens(2);
        for (int k = 1; k < 10; k++) {
            book.lot(1, k);
        }
        return book;
    }

    /** 100 passes, of two lots; all of lot 0 are where they were made, all of lot 1, too. */
    static SealBook manyPasses() {
        SealBook book = kitchens(2);
        book.lot(1, 5);
        for (int k = 0; k < 50; k++) {
            book.pass(0, k % 2, 1 - k % 2, 100, true);
            book.pass(1, 1 - k % 2, k % 2, 5, false);
        }
        return book;
    }

    static SealBook manyVisitors() {
        SealBook book = kitchens(2);
        for (int k = 0; k < 6; k++) {
            book.visitor(0, 9 - k);
        }
        return book;
    }

    /** Kitchens and visitors of school 0, at a minute. */
    static SealBook visited(int now, int kitchens, int visitors) {
        SealBook book = new SealBook();
        book.now(now);
        for (int k = 0; k < kitchens; k++) {
            book.kitchen(0, 0, 0, 0);
        }
        for (int k = 0; k < visitors; k++) {
            book.visitor(0, 1);
        }
        return book;
    }

    /** 400 visits, eight on each of the first 50 days; it is the day behind them. */
    static SealBook manyVisits() {
        SealBook book = visited(0, 8, 2);
        for (int k = 0; k < 400; k++) {
            if (k % 8 == 0 && k > 0) {
                book.now(k / 8 * 1440);
            }
            book.draw();
        }
        book.now(50 * 1440);
        return book;
    }

    /** What the draw makes of a seed. */
    static long drawn(long seed) {
        return (seed * 1103515245L + 12345L) % 2147483648L;
    }

    /** The least seed by which a draw takes a number of a row of a length. */
    static int seedFor(int number, int length) {
        int seed = 0;
        while (drawn(seed) / 65536 % length != number) {
            seed++;
        }
        return seed;
    }
}
