import com.sun.management.ThreadMXBean;
import java.lang.management.ManagementFactory;

/** All rows are made in the constructor: a book is small, and no call makes anything. */
public final class RoomTest {
    private static final int MOST_BYTES_A_BOOK = 50000;

    private static int state = 1;

    public static void main(String[] args) {
        Check check = new Check("RoomTest");
        ThreadMXBean threads = (ThreadMXBean) ManagementFactory.getThreadMXBean();
        long id = Thread.currentThread().getId();
        run(new SealBook());
        long start = threads.getThreadAllocatedBytes(id);
        long asking = threads.getThreadAllocatedBytes(id) - start;
        long before = threads.getThreadAllocatedBytes(id);
        SealBook book = new SealBook();
        long made = threads.getThreadAllocatedBytes(id) - before - asking;
        check.is("a book takes " + made + " bytes", made < MOST_BYTES_A_BOOK);
        before = threads.getThreadAllocatedBytes(id);
        int sum = run(book);
        long used = threads.getThreadAllocatedBytes(id) - before - asking;
        check.due("bytes made by calls (sum of the answers " + sum + ")", used, 0);
        check.end();
    }

    private static int next(int bound) {
        state = state * 1103515245 + 12345;
        return (state >>> 16) % bound;
    }

    private static int run(SealBook book) {
        int sum = 0;
        for (int k = 0; k < 6000; k++) {
            sum += tell(book, k % 24) + ask(book, k % 22);
        }
        return sum;
    }

    private static int tell(SealBook book, int which) {
        boolean flag = next(2) == 1;
        switch (which) {
            case 0: return book.now(book.count(0) + next(200)) ? 1 : 0;
            case 1: return book.feast(next(12), next(29), 1 + next(10)) ? 1 : 0;
            case 2: return book.feed(0x743a7861, 0x3e792b61, 0x3b633a31, 0x3e782d61, 0x20202020);
            case 3: return book.law(next(2), flag, next(3) == 0 ? 8 : 16);
            case 4: return book.thing(next(256));
            case 5: case 6: case 7: case 8: return book.act(next(2), next(20), next(20), next(500), flag);
            case 9: case 10: return book.act(2 + next(2), next(20), -1, next(500), flag);
            case 11: return next(9) == 0 && book.strike(next(200)) ? 1 : 0;
            case 12: return book.mistake(next(20), next(8), next(500));
            case 13: return book.kitchen(next(2), next(8), next(100), next(100));
            case 14: return book.oversee(next(8), next(8)) ? 1 : 0;
            case 15: return book.trust(next(2), next(8), flag) ? 1 : 0;
            case 16: return book.lot(next(8), 1 + next(1000));
            case 17: return book.pass(next(10), next(8), next(8), 1 + next(50), flag) ? 1 : 0;
            case 18: return book.visitor(next(2), 1 + next(9));
            case 19: return next(20) == 0 && book.seed(next(1000), 1 + next(9)) ? 1 : 0;
            case 20: return book.word(next(6), next(20), next(8), flag) ? 1 : 0;
            default: return book.draw();
        }
    }

    private static int ask(SealBook book, int which) {
        int now = book.count(0);
        switch (which) {
            case 0: return book.isFeast(next(1000));
            case 1: return book.moon(next(1000), next(3));
            case 2: return book.rules(next(2), next(2) == 0);
            case 3: return book.mark(next(2), next(20), next(8), now, now);
            case 4: return book.since(next(2), next(20), next(8), now, now, next(2));
            case 5: return book.quarrel(next(20), next(4));
            case 6: return book.leads(next(10), next(2), next(20), now);
            case 7: return book.reached(next(10), next(2), next(20));
            case 8: return book.way(next(10), next(2), next(20), next(4));
            case 9: return book.mend(next(10), next(2), next(20));
            case 10: return book.units(next(10), next(8));
            case 11: return book.good(next(2), next(10), next(8), next(2));
            case 12: return book.recall(next(10));
            case 13: return book.row();
            case 14: return book.visit(next(400), next(3));
            case 15: return book.tour(next(6));
            case 16: return book.stop(next(6), next(8));
            case 17: return book.believed(next(20), next(8));
            case 18: return book.look(next(200), next(7));
            default: return book.count(next(14));
        }
    }
}
