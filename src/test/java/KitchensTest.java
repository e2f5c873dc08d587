/** Promises 20 to 36: kitchens, lots, visitors, the draw, tours and words. */
public final class KitchensTest {
    private static final Check CHECK = new Check("KitchensTest");

    public static void main(String[] args) {
        kitchen();
        oversee();
        trust();
        lot();
        pass();
        units();
        good();
        goodAsWhenAsked();
        recall();
        visitor();
        seed();
        row();
        draw();
        drawOverdue();
        manyVisits();
        visit();
        tour();
        tourThroughAll();
        word();
        believed();
        CHECK.end();
    }

    private static void kitchen() {
        SealBook book = new SealBook();
        CHECK.due("20: school -1", book.kitchen(-1, 0, 0, 0), -1);
        CHECK.due("20: school 2", book.kitchen(2, 0, 0, 0), -1);
        CHECK.due("20: overseer -1", book.kitchen(0, -1, 0, 0), -1);
        CHECK.due("20: overseer 8", book.kitchen(0, 8, 0, 0), -1);
        CHECK.due("20: x -1", book.kitchen(0, 0, -1, 0), -1);
        CHECK.due("20: x 100", book.kitchen(0, 0, 100, 0), -1);
        CHECK.due("20: y -1", book.kitchen(0, 0, 0, -1), -1);
        CHECK.due("20: y 100", book.kitchen(0, 0, 0, 100), -1);
        CHECK.due("20: none of these", book.count(5), 0);
        for (int k = 0; k < 8; k++) {
            CHECK.due("20: number", book.kitchen(1, 7, 99, 99), k);
        }
        CHECK.due("20: 8 are there", book.kitchen(0, 0, 0, 0), -1);
        CHECK.due("20: 8", book.count(5), 8);
    }

    private static void oversee() {
        SealBook book = new SealBook();
        CHECK.not("21: no kitchen", book.oversee(0, 0));
        book.kitchen(0, 1, 0, 0);
        book.lot(0, 5);
        book.trust(0, 7, true);
        CHECK.not("21: overseer -1", book.oversee(0, -1));
        CHECK.not("21: overseer 8", book.oversee(0, 8));
        CHECK.not("21: kitchen -1", book.oversee(-1, 0));
        CHECK.not("21: kitchen 1", book.oversee(1, 0));
        CHECK.due("21: the old one", book.good(0, 0, 0, 0), 0);
        CHECK.is("21: another one", book.oversee(0, 7));
        CHECK.due("21: the new one", book.good(0, 0, 0, 0), 5);
        CHECK.is("21: the same one", book.oversee(0, 7));
    }

    private static void trust() {
        SealBook book = new SealBook();
        CHECK.not("22: school -1", book.trust(-1, 0, true));
        CHECK.not("22: school 2", book.trust(2, 0, true));
        CHECK.not("22: overseer -1", book.trust(0, -1, true));
        CHECK.not("22: overseer 8", book.trust(0, 8, true));
        for (int school = 0; school < 2; school++) {
            for (int overseer = 0; overseer < 8; overseer++) {
                CHECK.not("22: it isn't so at first", book.trust(school, overseer, false));
                CHECK.is("22: trusts", book.trust(school, overseer, true));
                CHECK.not("22: it is so", book.trust(school, overseer, true));
            }
        }
        book.kitchen(0, 3, 0, 0);
        book.lot(0, 5);
        CHECK.is("22: not any more", book.trust(1, 3, false));
        CHECK.due("22: by the other school alone", book.good(0, 0, 0, 0), 5);
        CHECK.due("22: not by this one", book.good(1, 0, 0, 1), 0);
    }

    private static void lot() {
        SealBook book = new SealBook();
        CHECK.due("23: no kitchen", book.lot(0, 1), -1);
        book.kitchen(0, 0, 0, 0);
        CHECK.due("23: kitchen -1", book.lot(-1, 1), -1);
        CHECK.due("23: kitchen 1", book.lot(1, 1), -1);
        CHECK.due("23: no units", book.lot(0, 0), -1);
        CHECK.due("23: 100001 units", book.lot(0, 100001), -1);
        CHECK.due("23: none of these", book.count(6), 0);
        CHECK.due("23: 100000 units", book.lot(0, 100000), 0);
        for (int k = 1; k < 10; k++) {
            CHECK.due("23: number", book.lot(0, k), k);
        }
        CHECK.due("23: 10 are there", book.lot(0, 1), -1);
        CHECK.due("23: 10", book.count(6), 10);
        CHECK.due("23: units", book.units(0, 0), 100000);
    }

    private static SealBook threeKitchens() {
        SealBook book = new SealBook();
        for (int k = 0; k < 3; k++) {
            book.kitchen(0, k, 10 * k, 0);
        }
        book.lot(0, 100);
        return book;
    }

    private static void pass() {
        SealBook book = threeKitchens();
        CHECK.not("24: lot -1", book.pass(-1, 0, 1, 1, true));
        CHECK.not("24: lot 1", book.pass(1, 0, 1, 1, true));
        CHECK.not("24: kitchen -1", book.pass(0, -1, 1, 1, true));
        CHECK.not("24: kitchen 3", book.pass(0, 3, 1, 1, true));
        CHECK.not("24: to kitchen -1", book.pass(0, 0, -1, 1, true));
        CHECK.not("24: to kitchen 3", book.pass(0, 0, 3, 1, true));
        CHECK.not("24: a is b", book.pass(0, 0, 0, 1, true));
        CHECK.not("24: none", book.pass(0, 0, 1, 0, true));
        CHECK.not("24: below none", book.pass(0, 0, 1, -1, true));
        CHECK.not("24: not so many", book.pass(0, 0, 1, 101, true));
        CHECK.not("24: none there", book.pass(0, 1, 0, 1, true));
        CHECK.due("24: none of these", book.count(7), 0);
        CHECK.is("24: all", book.pass(0, 0, 1, 100, false));
        CHECK.not("24: none any more", book.pass(0, 0, 1, 1, false));
        book.lot(2, 5);
        for (int k = 1; k < 100; k++) {
            CHECK.is("24: passes", k % 2 == 0 ? book.pass(1, 1, 2, 5, true) : book.pass(1, 2, 1, 5, true));
        }
        CHECK.not("24: 100 passes were", book.pass(1, 1, 2, 5, true));
        CHECK.not("24: of all lots", book.pass(0, 1, 2, 5, true));
        CHECK.due("24: 100", book.count(7), 100);
        CHECK.due("24: it stays", book.units(1, 1), 5);
    }

    private static void units() {
        SealBook book = threeKitchens();
        book.lot(1, 7);
        book.pass(0, 0, 1, 30, false);
        book.pass(0, 1, 2, 10, false);
        int[][] due = {{70, 20, 10}, {0, 7, 0}};
        for (int lot = 0; lot < 2; lot++) {
            for (int k = 0; k < 3; k++) {
                CHECK.due("25: units", book.units(lot, k), due[lot][k]);
            }
        }
        CHECK.due("25: lot -1", book.units(-1, 0), -1);
        CHECK.due("25: lot 2", book.units(2, 0), -1);
        CHECK.due("25: kitchen -1", book.units(0, -1), -1);
        CHECK.due("25: kitchen 3", book.units(0, 3), -1);
    }

    private static void isGood(String what, SealBook book, int kitchen, int least, int most) {
        CHECK.due("26: " + what + ", least", book.good(0, 0, kitchen, 0), least);
        CHECK.due("26: " + what + ", most", book.good(0, 0, kitchen, 1), most);
    }

    private static void good() {
        SealBook book = threeKitchens();
        book.trust(0, 0, true);
        book.trust(0, 1, true);
        book.trust(0, 2, true);
        book.pass(0, 0, 1, 40, false);
        isGood("not under a seal", book, 1, 0, 0);
        isGood("what stays", book, 0, 60, 60);
        book.pass(0, 0, 1, 20, true);
        isGood("put to them", book, 1, 20, 20);
        book.pass(0, 1, 2, 30, true);
        isGood("some of them, perhaps", book, 2, 0, 20);
        isGood("some stay, perhaps", book, 1, 0, 20);
        book.pass(0, 1, 2, 25, true);
        isGood("at least n less the others, at most those that were good", book, 2, 0, 40);
        isGood("at most what stays", book, 1, 0, 5);
        book.pass(0, 0, 2, 40, true);
        isGood("surely good ones put to them", book, 2, 40, 80);
        book.pass(0, 2, 0, 60, true);
        isGood("n less those that are not surely good", book, 0, 5, 60);
        isGood("the least less n", book, 2, 0, 35);
        CHECK.due("26: school 1", book.good(1, 0, 0, 1), 0);
        CHECK.due("26: school -1", book.good(-1, 0, 0, 0), -1);
        CHECK.due("26: school 2", book.good(2, 0, 0, 0), -1);
        CHECK.due("26: lot -1", book.good(0, -1, 0, 0), -1);
        CHECK.due("26: lot 1", book.good(0, 1, 0, 0), -1);
        CHECK.due("26: kitchen -1", book.good(0, 0, -1, 0), -1);
        CHECK.due("26: kitchen 3", book.good(0, 0, 3, 0), -1);
        CHECK.due("26: what -1", book.good(0, 0, 0, -1), -1);
        CHECK.due("26: what 2", book.good(0, 0, 0, 2), -1);
    }

    private static void goodAsWhenAsked() {
        SealBook book = threeKitchens();
        isGood("made without trust", book, 0, 0, 0);
        book.pass(0, 0, 1, 40, true);
        book.trust(0, 0, true);
        isGood("trusted later", book, 0, 60, 60);
        isGood("where they went", book, 1, 40, 40);
        book.pass(0, 1, 0, 10, true);
        isGood("they come back as none", book, 0, 60, 60);
        isGood("thirty stay", book, 1, 30, 30);
        book.pass(0, 0, 2, 20, true);
        isGood("ten of seventy aren't", book, 2, 10, 20);
        book.oversee(1, 0);
        isGood("another overseer", book, 2, 20, 20);
        book.trust(0, 0, false);
        for (int k = 0; k < 3; k++) {
            isGood("no trust", book, k, 0, 0);
        }
    }

    private static void recall() {
        SealBook book = threeKitchens();
        CHECK.due("27: where it was made", book.recall(0), 1);
        book.lot(2, 3);
        book.pass(0, 0, 2, 100, true);
        CHECK.due("27: are, or were", book.recall(0), 5);
        book.pass(0, 2, 0, 100, true);
        CHECK.due("27: were there", book.recall(0), 5);
        CHECK.due("27: each lot of its own", book.recall(1), 4);
        book.pass(1, 2, 1, 4, true);
        CHECK.due("27: a pass that was refused", book.recall(1), 4);
        CHECK.due("27: lot -1", book.recall(-1), -1);
        CHECK.due("27: lot 2", book.recall(2), -1);
    }

    private static void visitor() {
        SealBook book = new SealBook();
        CHECK.due("28: school -1", book.visitor(-1, 1), -1);
        CHECK.due("28: school 2", book.visitor(2, 1), -1);
        CHECK.due("28: weight 0", book.visitor(0, 0), -1);
        CHECK.due("28: weight 10", book.visitor(0, 10), -1);
        CHECK.due("28: none of these", book.count(8), 0);
        for (int k = 0; k < 6; k++) {
            CHECK.due("28: number", book.visitor(k % 2, k == 0 ? 1 : 9), k);
        }
        CHECK.due("28: 6 are there", book.visitor(0, 1), -1);
        CHECK.due("28: 6", book.count(8), 6);
    }

    private static void seed() {
        SealBook book = new SealBook();
        CHECK.not("29: seed -1", book.seed(-1, 1));
        CHECK.not("29: v 0", book.seed(5, 0));
        CHECK.not("29: v 100", book.seed(5, 100));
        CHECK.due("29: the seed stays", book.count(10), 1);
        CHECK.due("29: v stays", book.count(11), 7);
        CHECK.is("29: greatest", book.seed(2147483647, 99));
        CHECK.due("29: the seed", book.count(10), 2147483647);
        CHECK.due("29: v", book.count(11), 99);
        CHECK.is("29: least", book.seed(0, 1));
        CHECK.due("29: the least seed", book.count(10), 0);
        book.kitchen(0, 0, 0, 0);
        book.visitor(0, 1);
        book.seed(2147483647, 1);
        book.draw();
        CHECK.due("29: of the greatest", book.count(10), (2147483647L * 1103515245L + 12345L) % 2147483648L);
    }

    private static void row() {
        SealBook book = new SealBook();
        book.kitchen(0, 0, 0, 0);
        CHECK.due("31: no visitors", book.row(), 0);
        book.visitor(1, 1);
        CHECK.due("31: of another school", book.row(), 0);
        book.visitor(0, 1);
        book.visitor(0, 1);
        book.kitchen(1, 0, 0, 0);
        CHECK.due("31: twos", book.row(), 3);
        CHECK.due("31: the seed stays", book.count(10), 1);
        book.draw();
        book.draw();
        CHECK.due("31: all were visited", book.row(), 0);
        book.now(1440);
        CHECK.due("31: not those who made the latest visits", book.row(), 1);
    }

    private static void draw() {
        SealBook book = new SealBook();
        CHECK.due("30: none", book.draw(), -1);
        CHECK.due("30: the seed stays", book.count(10), 1);
        for (int k = 0; k < 4; k++) {
            book.kitchen(k % 2, 0, 0, 0);
        }
        for (int k = 0; k < 5; k++) {
            book.visitor(k % 2, 1);
        }
        int[] row = {0, 2, 4, 11, 13, 20, 22, 24, 31, 33};
        int[] left = row;
        long seed = 1;
        for (int k = 0; k < 4; k++) {
            CHECK.due("30: row", book.row(), left.length);
            seed = (seed * 1103515245L + 12345L) % 2147483648L;
            int due = left[(int) (seed / 65536 % left.length)];
            CHECK.due("30: drawn", book.draw(), due);
            CHECK.due("30: seed", book.count(10), seed);
            left = java.util.Arrays.stream(left).filter(two -> two / 10 != due / 10).toArray();
        }
        CHECK.due("30: all were visited", book.draw(), -1);
        CHECK.due("30: the seed stays then", book.count(10), seed);
        CHECK.due("30: four", book.count(9), 4);
    }

    private static void drawOverdue() {
        SealBook book = new SealBook();
        book.kitchen(0, 0, 0, 0);
        book.visitor(0, 1);
        book.visitor(0, 1);
        book.now(7 * 1440 + 1439);
        book.draw();
        book.kitchen(0, 0, 0, 0);
        CHECK.due("31: 7 days are not more than 7", book.row(), 2);
        book.now(8 * 1440);
        CHECK.due("31: 8 days from day 0 are", book.row(), 2);
        CHECK.due("30: the overdue one", book.draw() / 10, 1);
        CHECK.due("31: the other one then", book.row(), 1);
        book.kitchen(1, 0, 0, 0);
        CHECK.due("31: one without a visitor counts for none", book.row(), 1);
        book.now(15 * 1440);
        CHECK.due("31: the one of day 7 is overdue", book.row(), 1);
        book.seed(1, 6);
        CHECK.due("31: by another v both are", book.row(), 2);
        book.seed(1, 7);
        CHECK.due("30: the overdue one again", book.draw() / 10, 0);
        book.seed(1, 8);
        CHECK.due("31: none is", book.row(), 1);
    }

    private static void manyVisits() {
        SealBook book = new SealBook();
        for (int k = 0; k < 8; k++) {
            book.kitchen(0, 0, k, k);
        }
        book.visitor(0, 1);
        book.visitor(0, 1);
        for (int k = 0; k < 400; k++) {
            if (k % 8 == 0) {
                book.now(k / 8 * 1440);
            }
            int two = book.draw();
            CHECK.is("30: drawn", two >= 0 && book.visit(k, 0) == two / 10 && book.visit(k, 1) == two % 10);
            CHECK.is("30: another visitor than the latest", k < 8 || two % 10 != visitorBefore(book, k, two / 10));
        }
        book.now(50 * 1440);
        int seed = book.count(10);
        CHECK.due("31: the row is there", book.row(), 8);
        CHECK.due("30: 400 visits were", book.draw(), -1);
        CHECK.due("30: the seed stays", book.count(10), seed);
        CHECK.due("30: 400", book.count(9), 400);
        CHECK.due("32: the last one", book.visit(399, 2), 49);
    }

    private static int visitorBefore(SealBook book, int visit, int kitchen) {
        for (int i = visit - 1; i >= 0; i--) {
            if (book.visit(i, 0) == kitchen) {
                return book.visit(i, 1);
            }
        }
        return -1;
    }

    private static void visit() {
        SealBook book = new SealBook();
        CHECK.due("32: none", book.visit(0, 0), -1);
        book.kitchen(1, 0, 0, 0);
        book.visitor(0, 1);
        book.visitor(1, 1);
        book.now(4 * 1440 - 1);
        book.draw();
        CHECK.due("32: the kitchen", book.visit(0, 0), 0);
        CHECK.due("32: the visitor", book.visit(0, 1), 1);
        CHECK.due("32: the day", book.visit(0, 2), 3);
        CHECK.due("32: what 3", book.visit(0, 3), -1);
        CHECK.due("32: what -1", book.visit(0, -1), -1);
        CHECK.due("32: visit 1", book.visit(1, 0), -1);
        CHECK.due("32: visit -1", book.visit(-1, 0), -1);
    }

    private static SealBook visited(int[] xs, int[] ys) {
        SealBook book = new SealBook();
        book.now(500000);
        book.visitor(0, 1);
        for (int k = 0; k < xs.length; k++) {
            book.kitchen(0, 0, xs[k], ys[k]);
        }
        for (int k = 0; k < xs.length; k++) {
            book.draw();
        }
        return book;
    }

    private static void isTour(String what, SealBook book, int length, int... stops) {
        CHECK.due("33: " + what, book.tour(0), length);
        for (int k = 0; k < stops.length; k++) {
            CHECK.due("34: " + what + ", " + k, book.stop(0, k), stops[k]);
        }
        CHECK.due("34: " + what + ", behind it", book.stop(0, stops.length), -1);
    }

    private static void tour() {
        SealBook book = visited(new int[] {50}, new int[] {50});
        isTour("one kitchen", book, 0, 0);
        CHECK.due("33: no visitor", book.tour(1), -1);
        CHECK.due("33: visitor -1", book.tour(-1), -1);
        CHECK.due("34: no visitor", book.stop(1, 0), -1);
        CHECK.due("34: visitor -1", book.stop(-1, 0), -1);
        CHECK.due("34: stop -1", book.stop(0, -1), -1);
        CHECK.due("34: stop 8", book.stop(0, 8), -1);
        book.visitor(0, 1);
        CHECK.due("33: one who visits none", book.tour(1), -1);
        CHECK.due("34: one who visits none", book.stop(1, 0), -1);
        book.now(501120);
        CHECK.due("33: another day", book.tour(0), -1);
        CHECK.due("34: another day", book.stop(0, 0), -1);
        isTour("from either end", visited(new int[] {0, 9, 5}, new int[] {0, 9, 5}), 18, 0, 2, 1);
        isTour("the least of like ones", visited(new int[] {3, 3, 3, 3}, new int[] {4, 4, 4, 4}), 0, 0, 1, 2, 3);
        isTour("both numbers", visited(new int[] {0, 99, 0}, new int[] {0, 0, 99}), 198, 1, 0, 2);
        // The nearest one first would lead astray here.
        isTour("not the nearest first", visited(new int[] {10, 9, 12, 0}, new int[] {0, 0, 0, 0}), 12, 2, 0, 1, 3);
    }

    private static void tourThroughAll() {
        int[] xs = {90, 3, 41, 77, 12, 60, 33, 8};
        int[] ys = {10, 95, 41, 70, 20, 5, 88, 51};
        SealBook book = visited(xs, ys);
        int[] row = new int[8];
        int best = shortest(xs, ys, row, 0, new boolean[8]);
        CHECK.due("33: all kitchens", book.tour(0), best);
        int length = 0;
        for (int k = 1; k < 8; k++) {
            int a = book.stop(0, k - 1);
            int b = book.stop(0, k);
            length += Math.abs(xs[a] - xs[b]) + Math.abs(ys[a] - ys[b]);
        }
        CHECK.due("34: as long", length, best);
    }

    private static int shortest(int[] xs, int[] ys, int[] row, int size, boolean[] used) {
        if (size == row.length) {
            return 0;
        }
        int best = Integer.MAX_VALUE;
        for (int k = 0; k < row.length; k++) {
            if (!used[k]) {
                int last = size == 0 ? k : row[size - 1];
                int step = Math.abs(xs[k] - xs[last]) + Math.abs(ys[k] - ys[last]);
                used[k] = true;
                row[size] = k;
                best = Math.min(best, step + shortest(xs, ys, row, size + 1, used));
                used[k] = false;
            }
        }
        return best;
    }

    private static void word() {
        SealBook book = new SealBook();
        CHECK.not("35: nobody", book.word(0, 0, 0, true));
        book.visitor(0, 1);
        CHECK.not("35: no thing", book.word(0, 0, 0, true));
        book.thing(0);
        CHECK.not("35: visitor -1", book.word(-1, 0, 0, true));
        CHECK.not("35: visitor 1", book.word(1, 0, 0, true));
        CHECK.not("35: thing -1", book.word(0, -1, 0, true));
        CHECK.not("35: thing 1", book.word(0, 1, 0, true));
        CHECK.not("35: mark -1", book.word(0, 0, -1, true));
        CHECK.not("35: mark 8", book.word(0, 0, 8, true));
        CHECK.is("35: has", book.word(0, 0, 7, true));
        CHECK.is("35: has, again", book.word(0, 0, 7, true));
        CHECK.due("35: no other mark", book.believed(0, 6), -1);
        CHECK.is("35: has not", book.word(0, 0, 7, false));
        CHECK.due("35: the latest", book.believed(0, 7), 0);
    }

    private static void believed() {
        SealBook book = new SealBook();
        int[] weights = {2, 4, 1, 9};
        for (int weight : weights) {
            book.visitor(0, weight);
        }
        book.thing(255);
        book.thing(0);
        CHECK.due("36: no words", book.believed(0, 0), -1);
        book.word(0, 1, 0, false);
        CHECK.due("36: not of that thing", book.believed(0, 0), -1);
        CHECK.due("36: one who says no", book.believed(1, 0), 0);
        book.word(1, 1, 0, true);
        CHECK.due("36: 4 is not more than twice 2", book.believed(1, 0), -1);
        book.word(2, 1, 0, true);
        CHECK.due("36: 5 is", book.believed(1, 0), 1);
        book.word(3, 1, 0, false);
        CHECK.due("36: 11 is more than twice 5", book.believed(1, 0), 0);
        book.word(0, 1, 0, true);
        CHECK.due("36: 9 is not more than twice 7", book.believed(1, 0), -1);
        CHECK.due("36: thing -1", book.believed(-1, 0), -1);
        CHECK.due("36: thing 2", book.believed(2, 0), -1);
        CHECK.due("36: mark -1", book.believed(0, -1), -1);
        CHECK.due("36: mark 8", book.believed(0, 8), -1);
    }
}
