/** What the document says of counting: a test for each sentence, with as few and as many as there can be. */
final class CountSentences {
    private static final int NONE = SealBook.NONE;

    private final Check check;

    CountSentences(Check check) {
        this.check = check;
    }

    void ask() {
        countWhat();
        countOthers();
    }

    private void due(int what, int got, int want) {
        check.due("count(" + what + ")", got, want);
    }

    private void countWhat() {
        check.says(38, "0 NOW, 1 FEASTS, 2 THINGS, 3 ACTS, 4 MISTAKES, 5 KITCHENS, 6 LOTS, 7 PASSES, 8 VISITORS, "
                + "9 VISITS, 10 the SEED, 11 V, 12 bytes of the tape, 13 QUARRELS.");
        int[] atFirst = {0, 0, 0, 0, 0, 0, 0, 0, 0, 0, 1, 7, 0, 0};
        for (int what = 0; what < 14; what++) {
            due(what, new SealBook().count(what), atFirst[what]);
        }
        // By touching THING 1 gets a by SCHOOL 0, and b by SCHOOL 1; that is two QUARRELS.
        int[] small = {1500, 1, 3, 3, 1, 2, 1, 1, 2, 2, -1, 3, 20, 2};
        SealBook book = Books.small();
        for (int what = 0; what < 14; what++) {
            if (what != 10) {
                due(what, book.count(what), small[what]);
            }
        }
        due(10, book.count(10), (int) Books.drawn(Books.drawn(4711)));
        due(0, Books.at(Books.LAST, "").count(0), Books.LAST);
        due(1, Books.manyFeasts().count(1), 6);
        due(2, Books.manyThings().count(2), 20);
        due(3, Books.manyActs().count(3), 200);
        due(4, Books.manyMistakes().count(4), 10);
        due(5, Books.kitchens(8).count(5), 8);
        due(6, Books.manyLots().count(6), 10);
        due(7, Books.manyPasses().count(7), 100);
        due(8, Books.manyVisitors().count(8), 6);
        due(9, Books.manyVisits().count(9), 400);
        due(12, Books.fullTape().count(12), 240);
        manyQuarrels();
    }

    private void manyQuarrels() {
        SealBook book = Books.at(5, "l:1>x-a,x-b,x-c,x-d;l:1>x-e,x-f,x-g,x-h");
        for (int k = 0; k < 20; k++) {
            book.thing(255);
            book.act(3, k, NONE, 5, true);
            due(13, book.count(13), 8 * k + 8);
        }
        book.seed(2147483647, 99);
        due(10, book.count(10), 2147483647);
        due(11, book.count(11), 99);
    }

    private void countOthers() {
        check.says(38, "NONE for others.");
        int[] whats = {-1, 14, 15, Integer.MIN_VALUE, Integer.MAX_VALUE};
        for (int what : whats) {
            due(what, Books.small().count(what), NONE);
            due(what, new SealBook().count(what), NONE);
        }
    }
}
