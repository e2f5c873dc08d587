/** Promise 38: count. */
public final class CountTest {
    public static void main(String[] args) {
        Check check = new Check("CountTest");
        SealBook book = new SealBook();
        check.due("what -1", book.count(-1), -1);
        check.due("what 14", book.count(14), -1);
        check.due("the greatest what", book.count(Integer.MAX_VALUE), -1);
        book.now(4321);
        book.feast(0, 0, 1);
        Texts.law(book, 0, false, "t:1>y+a");
        for (int k = 0; k < 3; k++) {
            book.thing(0);
        }
        for (int k = 0; k < 4; k++) {
            book.act(0, 0, 1, 5, true);
        }
        for (int k = 0; k < 5; k++) {
            book.mistake(0, 1, 0);
        }
        for (int k = 0; k < 6; k++) {
            book.kitchen(0, 0, 0, 0);
        }
        for (int k = 0; k < 7; k++) {
            book.lot(0, 100);
        }
        for (int k = 0; k < 8; k++) {
            book.pass(0, 0, 1, 1, true);
        }
        book.visitor(0, 1);
        book.visitor(0, 1);
        book.seed(77, 12);
        book.draw();
        book.strike(3);
        book.feed(0, 0, 0, 0, 0);
        book.feed(0, 0, 0, 0, 0);
        long seed = (77 * 1103515245L + 12345L) % 2147483648L;
        // Both things of the acts have the mark by the law of school 0.
        long[] due = {4321, 1, 3, 4, 5, 6, 7, 8, 2, 1, seed, 12, 40, 2};
        for (int what = 0; what < due.length; what++) {
            check.due("count " + what, book.count(what), due[what]);
        }
        check.end();
    }
}
