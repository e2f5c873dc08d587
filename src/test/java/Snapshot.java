import java.util.Arrays;
import java.util.stream.IntStream;

/**
 * What can be asked of a book, as a row of numbers. A book answers 512 calls, so of a full one the first and the
 * last ones are asked.
 */
final class Snapshot {
    private static final int[] DAYS = {0, 1, 9, 10, 28, 29, 37, 38, 57, 58, 352, 361, 362, 999};

    private final SealBook book;
    private final int[] answers = new int[512];
    private int size;

    private Snapshot(SealBook book) {
        this.book = book;
    }

    /** All of it; the book isn't of use behind it. */
    static int[] of(SealBook book) {
        Snapshot all = new Snapshot(book);
        all.ask();
        all.probe();
        return Arrays.copyOf(all.answers, all.size);
    }

    /** What can be asked without changing the book. */
    static int[] asked(SealBook book) {
        Snapshot all = new Snapshot(book);
        all.ask();
        return Arrays.copyOf(all.answers, all.size);
    }

    private void add(int answer) {
        answers[size] = answer;
        size++;
    }

    /** The first ones and the last one. */
    private static int[] some(int count, int first) {
        return IntStream.range(0, count).filter(k -> k < first || k == count - 1).toArray();
    }

    private void ask() {
        for (int what = 0; what < 14; what++) {
            add(book.count(what));
        }
        for (int school = 0; school < 2; school++) {
            add(book.rules(school, false));
            add(book.rules(school, true));
        }
        for (int day : DAYS) {
            add(book.isFeast(day));
        }
        add(book.quarrel(0, 1));
        add(book.row());
        askThings(some(book.count(2), 2));
        for (int act : some(book.count(3), 2)) {
            for (int what = 0; what < 7; what++) {
                add(book.look(act, what));
            }
        }
        askLots();
        askVisits();
    }

    private void askThings(int[] things) {
        int now = book.count(0);
        for (int thing : things) {
            for (int mark = 0; mark < 8; mark++) {
                add(book.mark(0, thing, mark, now, now));
                add(book.mark(1, thing, mark, now, now));
                add(book.since(0, thing, mark, now, now, 0));
                add(book.since(0, thing, mark, now, now, 1));
            }
            add(book.believed(thing, 0));
            add(book.believed(thing, 7));
            for (int i : some(book.count(4), 1)) {
                add(book.leads(i, 0, thing, now));
                add(book.reached(i, 0, thing));
                add(book.way(i, 0, thing, 1));
                add(book.mend(i, 0, thing));
            }
        }
    }

    private void askLots() {
        for (int lot : some(book.count(6), 1)) {
            add(book.recall(lot));
            for (int kitchen : some(book.count(5), 2)) {
                add(book.units(lot, kitchen));
                for (int school = 0; school < 2; school++) {
                    add(book.good(school, lot, kitchen, 0));
                    add(book.good(school, lot, kitchen, 1));
                }
            }
        }
    }

    private void askVisits() {
        for (int visit : some(book.count(9), 1)) {
            for (int what = 0; what < 3; what++) {
                add(book.visit(visit, what));
            }
        }
        for (int visitor : some(book.count(8), 2)) {
            add(book.tour(visitor));
            add(book.stop(visitor, 0));
        }
    }

    /** What can be seen by what comes of it alone: whom the schools trust, the bytes of the tape, the next draw. */
    private void probe() {
        for (int school = 0; school < 2; school++) {
            for (int overseer = 0; overseer < 8; overseer++) {
                add(book.trust(school, overseer, true) ? 1 : 0);
            }
        }
        askLots();
        add(book.law(0, false, book.count(12)));
        add(book.draw());
        add(book.count(10));
        int number = book.thing(0);
        add(number);
        if (number != SealBook.NONE) {
            add(book.mark(0, number, 0, 0, 0));
            add(book.believed(number, 0));
        }
    }
}
