import java.math.BigInteger;

/** What the document says of visitors, the draw, tours and words: a test for each sentence. */
final class VisitSentences {
    private static final String TERMS = "Terms 5";
    private static final int NONE = SealBook.NONE;
    private static final int[] FAR = {Integer.MIN_VALUE, Integer.MAX_VALUE};

    private final Check check;

    VisitSentences(Check check) {
        this.check = check;
    }

    void ask() {
        visitors();
        seedAtFirst();
        rowOfTwos();
        byKitchensThenVisitors();
        overdue();
        rowEmpty();
        seedModulo();
        visitOfThatNumber();
        visitorNumber();
        visitorNone();
        seedTrue();
        seedFalse();
        drawTold();
        drawNone();
        rowAsItIs();
        visitWhat();
        visitOthers();
        tourRow();
        tourLength();
        tourShortest();
        tourLeastRow();
        tourHowLong();
        tourNone();
        stopOfIt();
        stopNone();
        words();
        believedTwice();
        wordTrue();
        wordFalse();
        believedOneAndZero();
        believedNone();
    }

    private void visitors() {
        check.says(28, TERMS, "VISITORS 0 to 5, each of a SCHOOL, with a WEIGHT (1 to 9).");
        SealBook book = Books.at(0, "", 0);
        for (int k = 0; k < 5; k++) {
            book.visitor(0, 1);
        }
        check.not("word of VISITOR 5, not there", book.word(5, 0, 0, true));
        check.due("VISITOR 5", book.visitor(1, 9), 5);
        check.is("word of VISITOR 5", book.word(5, 0, 0, true));
        check.due("VISITOR 6", book.visitor(1, 9), NONE);
        check.not("word of VISITOR 6", book.word(6, 0, 0, true));
        int[][] numbers = {{-1, 1}, {2, 1}, {0, 0}, {0, 10}};
        for (int[] one : numbers) {
            check.due("visitor" + java.util.Arrays.toString(one), new SealBook().visitor(one[0], one[1]), NONE);
        }
        int[][] due = {{0, 1}, {1, 1}, {0, 9}, {1, 9}};
        for (int[] one : due) {
            book = Books.at(0, "", 0);
            check.due("visitor" + java.util.Arrays.toString(one), book.visitor(one[0], one[1]), 0);
            book.kitchen(1, 0, 0, 0);
            check.due("for a KITCHEN of SCHOOL 1", book.row(), one[0]);
            book.visitor(0, 4);
            book.word(0, 0, 0, true);
            book.word(1, 0, 0, false);
            check.due("against a WEIGHT of 4", book.believed(0, 0), one[1] == 9 ? 1 : 0);
        }
    }

    private void seedAtFirst() {
        check.says(29, TERMS, "The DRAW has a SEED (0 to 2147483647; 1 at first).");
        check.due("at first", new SealBook().count(10), 1);
        check.not("seed(-1, 7)", new SealBook().seed(-1, 7));
        int[] seeds = {0, 1, 2147483646, 2147483647};
        for (int seed : seeds) {
            SealBook book = new SealBook();
            check.is("seed(" + seed + ", 7)", book.seed(seed, 7));
            check.due("SEED", book.count(10), seed);
        }
        SealBook book = Books.visited(0, 1, 1);
        book.draw();
        check.due("the first draw is by 1", book.count(10), 1103527590);
    }

    private void rowOfTwos() {
        check.says(31, TERMS, "TO DRAW a VISIT on the DAY of NOW: the ROW of all twos of a KITCHEN "
                + "that was not VISITED this DAY and a VISITOR of its SCHOOL who did not make the latest VISIT there;");
        SealBook book = Books.visited(1439, 1, 3);
        book.visitor(1, 1);
        check.due("a KITCHEN, three VISITORS of its SCHOOL", book.row(), 3);
        int first = book.draw();
        check.due("VISITED this DAY", book.row(), 0);
        book.now(1440);
        check.due("the next DAY, without the latest VISITOR", book.row(), 2);
        int second = book.draw();
        check.is("another one", second != first && second >= 0);
        check.due("VISITED in the first MINUTE of the DAY", book.row(), 0);
        book.now(2879);
        check.due("still VISITED in the last one", book.row(), 0);
        book.now(2880);
        check.due("the one ahead of the latest may again", book.row(), 2);
        book.kitchen(1, 0, 0, 0);
        check.due("and a KITCHEN of SCHOOL 1", book.row(), 3);
        book = Books.visited(0, 1, 1);
        book.draw();
        book.now(999 * 1440);
        check.due("a VISITOR alone is never two times there", book.row(), 0);
        book.visitor(0, 1);
        check.due("another one is", book.row(), 1);
        check.due("all twos that there can be", Books.visited(0, 8, 6).row(), 48);
    }

    private void byKitchensThenVisitors() {
        check.says(30, TERMS, "by KITCHENS, then VISITORS;");
        for (int number = 0; number < 48; number++) {
            SealBook book = Books.visited(0, 8, 6);
            book.seed(Books.seedFor(number, 48), 7);
            check.due("number " + number + " of 48", book.draw(), number / 6 * 10 + number % 6);
        }
        // KITCHENS of SCHOOLS 0, 1, 0 and VISITORS of 1, 0, 0, 1.
        int[] due = {1, 2, 10, 13, 21, 22};
        for (int number = 0; number < due.length; number++) {
            SealBook book = new SealBook();
            for (int k = 0; k < 3; k++) {
                book.kitchen(k % 2, 0, 0, 0);
            }
            for (int k = 0; k < 4; k++) {
                book.visitor(k % 3 == 0 ? 1 : 0, 1);
            }
            book.seed(Books.seedFor(number, 6), 7);
            check.due("number " + number + " of 6", book.draw(), due[number]);
        }
    }

    /** KITCHEN 0 is VISITED on a DAY, KITCHEN 1 never; how long the ROW is on another DAY (VISITORS 0, 1). */
    private static int rowOn(int visited, int v, int day) {
        SealBook book = Books.visited(visited * 1440, 1, 2);
        book.draw();
        book.seed(1, v);
        book.now(day * 1440);
        book.kitchen(0, 0, 0, 0);
        return book.row();
    }

    private void overdue() {
        check.says(31, TERMS, "if some of these KITCHENS are OVERDUE (their latest VISIT, or DAY 0 if there was none, "
                + "is more DAYS ago than V; 7 at first), only twos with such.");
        // Three twos: one with KITCHEN 0 and two with KITCHEN 1.
        int[][] due = {{6, 7, 7, 3}, {7, 7, 8, 2}, {0, 1, 1, 3}, {1, 1, 2, 2}, {98, 99, 99, 3}, {99, 99, 100, 2}};
        for (int[] one : due) {
            check.due("never VISITED, V " + one[1] + ", DAY " + one[2], rowOn(one[0], one[1], one[2]), one[3]);
        }
        SealBook book = Books.visited(3 * 1440 + 1439, 1, 2);
        book.draw();
        book.now(9 * 1440);
        book.kitchen(0, 0, 0, 0);
        check.due("on DAY 9 KITCHEN 1 is OVERDUE, as 7 is V at first", book.draw() / 10, 1);
        check.due("then KITCHEN 0 alone is left", book.row(), 1);
        book.now(10 * 1440 + 1439);
        check.due("7 DAYS ago", book.row(), 2);
        book.now(11 * 1440);
        check.due("8 DAYS ago", book.row(), 1);
        check.due("it is KITCHEN 0", book.draw() / 10, 0);
        book.now(20 * 1440);
        check.due("both are OVERDUE", book.row(), 2);
        // Read so: these KITCHENS are those of the twos; one that nobody can VISIT doesn't count.
        book = Books.visited(6 * 1440, 1, 2);
        book.draw();
        book.kitchen(1, 0, 0, 0);
        book.now(8 * 1440);
        check.due("an OVERDUE one without a VISITOR", book.row(), 1);
    }

    private void rowEmpty() {
        check.says(30, TERMS, "If the ROW is empty there is none.");
        check.none("no KITCHENS, no VISITORS", SealBook::new, SealBook::draw);
        check.none("no VISITORS", () -> Books.visited(0, 8, 0), SealBook::draw);
        check.none("no KITCHENS", () -> Books.visited(0, 0, 6), SealBook::draw);
        check.none("none of its SCHOOL", () -> {
            SealBook book = Books.visited(0, 2, 0);
            book.visitor(1, 1);
            return book;
        }, SealBook::draw);
        check.none("all VISITED this DAY", () -> {
            SealBook book = Books.visited(0, 2, 3);
            book.draw();
            book.draw();
            return book;
        }, SealBook::draw);
        check.due("one two", Books.visited(0, 1, 1).draw(), 0);
    }

    private void seedModulo() {
        check.says(30, TERMS, "SEED = (SEED times 1103515245 and 12345) modulo 2147483648;");
        int[][] due = {{0, 12345}, {1, 1103527590}, {2, 59559187}, {2147483647, 1043980748}};
        for (int[] one : due) {
            SealBook book = Books.visited(0, 1, 1);
            book.seed(one[0], 7);
            book.draw();
            check.due("SEED behind " + one[0], book.count(10), one[1]);
        }
        SealBook book = Books.visited(0, 8, 2);
        BigInteger seed = BigInteger.ONE;
        for (int k = 0; k < 120; k++) {
            book.now(k / 8 * 1440);
            book.draw();
            seed = seed.multiply(BigInteger.valueOf(1103515245)).add(BigInteger.valueOf(12345))
                    .mod(BigInteger.valueOf(2147483648L));
            check.due("SEED " + k, book.count(10), seed.longValue());
        }
    }

    private void visitOfThatNumber() {
        check.says(30, TERMS, "the VISIT is that of number (SEED / 65536) modulo as many as are in the ROW.");
        for (int length = 1; length <= 6; length++) {
            for (int seed = 0; seed < 40; seed++) {
                SealBook book = Books.visited(0, 1, length);
                book.seed(seed, 7);
                check.due("SEED " + seed + " of " + length, book.draw(), Books.drawn(seed) / 65536 % length);
            }
        }
        SealBook book = Books.visited(0, 1, 6);
        book.seed(2147483647, 7);
        check.due("the greatest SEED", book.draw(), 1043980748 / 65536 % 6);
    }

    private void visitorNumber() {
        check.says(28, "A VISITOR: the number");
        SealBook book = new SealBook();
        for (int k = 0; k < 6; k++) {
            check.due("number", book.visitor(k % 2, 1 + k), k);
        }
        check.due("VISITORS", book.count(8), 6);
    }

    private void visitorNone() {
        check.says(28, "NONE: no such numbers, 6 are there.");
        int[][] wrong = {{-1, 1}, {2, 1}, {0, 0}, {0, 10}, {0, -1}};
        for (int[] one : wrong) {
            check.none("visitor" + java.util.Arrays.toString(one), Books::small,
                    book -> book.visitor(one[0], one[1]));
        }
        for (int far : FAR) {
            check.none("SCHOOL " + far, Books::small, book -> book.visitor(far, 1));
            check.none("WEIGHT " + far, Books::small, book -> book.visitor(0, far));
        }
        check.none("a seventh", Books::manyVisitors, book -> book.visitor(0, 1));
        check.due("VISITORS", Books.manyVisitors().count(8), 6);
    }

    private void seedTrue() {
        check.says(29, "The SEED, and V (1 to 99): true");
        SealBook book = new SealBook();
        check.is("seed(0, 1)", book.seed(0, 1));
        check.due("SEED", book.count(10), 0);
        check.due("V", book.count(11), 1);
        check.is("seed(2147483647, 99)", book.seed(2147483647, 99));
        check.due("SEED", book.count(10), 2147483647);
        check.due("V", book.count(11), 99);
        check.is("once more", book.seed(2147483647, 99));
    }

    private void seedFalse() {
        check.says(29, "false: no such numbers.");
        int[][] wrong = {{-1, 1}, {-1, 99}, {5, 0}, {5, 100}, {5, -1}, {Integer.MIN_VALUE, 7},
            {5, Integer.MIN_VALUE}, {5, Integer.MAX_VALUE}};
        for (int[] one : wrong) {
            check.refused("seed" + java.util.Arrays.toString(one), Books::small,
                    book -> book.seed(one[0], one[1]));
        }
    }

    private void drawTold() {
        check.says(30, "TO DRAW: the KITCHEN times 10, and the VISITOR");
        SealBook book = Books.visited(0, 8, 6);
        for (int k = 0; k < 8; k++) {
            int two = book.draw();
            check.due("KITCHEN", two / 10, book.visit(k, 0));
            check.due("VISITOR", two % 10, book.visit(k, 1));
        }
        book = Books.visited(0, 8, 6);
        book.seed(Books.seedFor(47, 48), 7);
        check.due("the greatest", book.draw(), 75);
        book = Books.visited(0, 8, 6);
        book.seed(Books.seedFor(0, 48), 7);
        check.due("the least", book.draw(), 0);
    }

    private void drawNone() {
        check.says(30, "NONE: there is none, 400 VISITS were.");
        check.none("there is none", SealBook::new, SealBook::draw);
        SealBook book = Books.visited(0, 8, 2);
        for (int k = 0; k < 400; k++) {
            if (k % 8 == 0) {
                book.now(k / 8 * 1440);
            }
            check.is("VISIT " + k, book.draw() != NONE);
        }
        check.due("DAY of VISIT 399", book.visit(399, 2), 49);
        check.due("all are VISITED on DAY 49", book.row(), 0);
        book.now(50 * 1440);
        int seed = book.count(10);
        check.due("the ROW isn't empty", book.row(), 8);
        check.due("VISIT 400", book.draw(), NONE);
        check.due("VISITS", book.count(9), 400);
        check.due("the SEED stays", book.count(10), seed);
        check.due("visit(400, 0)", book.visit(400, 0), NONE);
        check.due("nobody has a TOUR", book.tour(0) + book.tour(1), 2 * NONE);
        check.due("the ROW stays", book.row(), 8);
    }

    private void rowAsItIs() {
        check.says(31, "Of the ROW as it is now, how many twos.");
        check.due("of none", new SealBook().row(), 0);
        SealBook book = Books.visited(0, 3, 4);
        for (int k = 3; k >= 0; k--) {
            check.due(k + " KITCHENS left", book.row(), 4 * k);
            int seed = book.count(10);
            check.due("asked again", book.row(), 4 * k);
            check.due("the SEED", book.count(10), seed);
            check.due("VISITS", book.count(9), 3 - k);
            book.draw();
        }
        book.now(1440);
        check.due("the next DAY", book.row(), 9);
        check.due("behind 400 VISITS", Books.manyVisits().row(), 8);
    }

    private void visitWhat() {
        check.says(32, "Of VISIT i (from 0 on), what 0 the KITCHEN, 1 the VISITOR, 2 the DAY.");
        SealBook book = new SealBook();
        book.now(1439);
        book.kitchen(1, 0, 0, 0);
        book.visitor(0, 1);
        book.visitor(1, 1);
        book.draw();
        book.kitchen(0, 0, 0, 0);
        book.now(1440);
        book.draw();
        book.now(Books.LAST);
        book.kitchen(1, 0, 0, 0);
        book.visitor(1, 1);
        book.seed(Books.seedFor(2, 3), 7);
        book.draw();
        int[][] due = {{0, 1, 0}, {1, 0, 1}, {2, 2, 999}};
        for (int i = 0; i < due.length; i++) {
            for (int what = 0; what < 3; what++) {
                check.due("visit(" + i + ", " + what + ")", book.visit(i, what), due[i][what]);
            }
        }
    }

    private void visitOthers() {
        check.says(32, "NONE for others.");
        SealBook book = Books.small();
        int[] visits = {-1, 2, 399, 400, Integer.MIN_VALUE, Integer.MAX_VALUE};
        for (int i : visits) {
            for (int what = 0; what < 3; what++) {
                check.due("visit(" + i + ", " + what + ")", book.visit(i, what), NONE);
            }
        }
        int[] whats = {-1, 3, Integer.MIN_VALUE, Integer.MAX_VALUE};
        for (int what : whats) {
            check.due("visit(0, " + what + ")", book.visit(0, what), NONE);
        }
        check.due("visit(1, 2)", book.visit(1, 2), 1);
        check.due("visit(0, 0) of none", new SealBook().visit(0, 0), NONE);
        check.due("visit(399, 2) of 400", Books.manyVisits().visit(399, 2), 49);
        check.due("visit(400, 2) of 400", Books.manyVisits().visit(400, 2), NONE);
    }

    /** VISITOR 0 VISITS KITCHENS at some PLACES on DAY 0. */
    private static SealBook toured(int... places) {
        SealBook book = new SealBook();
        book.visitor(0, 1);
        for (int k = 0; k < places.length; k += 2) {
            book.kitchen(0, 0, places[k], places[k + 1]);
        }
        for (int k = 0; k < places.length; k += 2) {
            book.draw();
        }
        return book;
    }

    private void isTour(String what, SealBook book, int length, int... stops) {
        check.due(what + ", how long", book.tour(0), length);
        for (int k = 0; k < stops.length; k++) {
            check.due(what + ", KITCHEN " + k, book.stop(0, k), stops[k]);
        }
        check.due(what + ", behind it", book.stop(0, stops.length), NONE);
    }

    private void tourRow() {
        check.says(33, TERMS, "THE TOUR of a VISITOR: a row of all KITCHENS that they VISIT on the DAY of NOW;");
        SealBook book = toured(0, 0, 5, 5);
        book.kitchen(0, 0, 50, 50);
        isTour("without the KITCHEN that they don't VISIT", book, 10, 0, 1);
        book.draw();
        isTour("with it", book, 100, 0, 1, 2);
        book.now(1439);
        isTour("in the last MINUTE of the DAY", book, 100, 0, 1, 2);
        book.visitor(0, 1);
        check.due("another VISITOR", book.tour(1), NONE);
        book.now(1440);
        check.due("the next DAY", book.tour(0), NONE);
        book.seed(Books.seedFor(1, 3), 7);
        check.due("VISITOR 1 VISITS KITCHEN 1", book.draw(), 11);
        check.due("their TOUR", book.tour(1), 0);
        check.due("their KITCHEN", book.stop(1, 0), 1);
        check.due("no other one", book.stop(1, 1), NONE);
        check.due("not that of VISITOR 0", book.tour(0), NONE);
        isTour("one KITCHEN", toured(99, 99), 0, 0);
        isTour("eight KITCHENS", toured(0, 0, 10, 0, 20, 0, 30, 0, 40, 0, 50, 0, 60, 0, 70, 0), 70,
                0, 1, 2, 3, 4, 5, 6, 7);
    }

    private void tourLength() {
        check.says(33, TERMS, "it is as long as the ways from each to the next one together "
                + "(differences of PLACES, of both numbers);");
        isTour("x alone", toured(10, 5, 17, 5), 7, 0, 1);
        isTour("y alone", toured(10, 5, 10, 0), 5, 0, 1);
        isTour("both, one up, one down", toured(10, 5, 13, 1), 7, 0, 1);
        isTour("both, the greatest", toured(0, 99, 99, 0), 198, 0, 1);
        isTour("not back to the first", toured(0, 0, 3, 0, 3, 4), 7, 0, 1, 2);
        isTour("one PLACE", toured(7, 7, 7, 7), 0, 0, 1);
        isTour("four corners", toured(0, 0, 99, 0, 0, 99, 99, 99), 297, 0, 1, 3, 2);
    }

    private void tourShortest() {
        check.says(33, TERMS, "the shortest;");
        isTour("begins at an end", toured(10, 0, 0, 0, 20, 0), 20, 1, 0, 2);
        isTour("not the nearest first", toured(10, 0, 9, 0, 12, 0, 0, 0), 12, 2, 0, 1, 3);
        int[] places = new int[16];
        int number = 7;
        for (int turn = 0; turn < 40; turn++) {
            int size = 2 + turn % 7;
            for (int k = 0; k < 2 * size; k++) {
                number = number * 1103515245 + 12345;
                places[k] = (number >>> 16) % (turn % 2 == 0 ? 100 : 4);
            }
            int[] some = java.util.Arrays.copyOf(places, 2 * size);
            Tours best = new Tours(some);
            isTour("places " + java.util.Arrays.toString(some), toured(some), best.length, best.row);
        }
    }

    private void tourLeastRow() {
        check.says(34, TERMS, "of like ones the least row.");
        isTour("all at one PLACE", toured(3, 4, 3, 4, 3, 4, 3, 4, 3, 4, 3, 4, 3, 4, 3, 4), 0, 0, 1, 2, 3, 4, 5, 6, 7);
        isTour("from either end", toured(0, 0, 9, 9, 5, 5), 18, 0, 2, 1);
        isTour("from the end with the least number", toured(9, 9, 5, 5, 0, 0), 18, 0, 1, 2);
        isTour("round a square", toured(0, 0, 1, 1, 0, 1, 1, 0), 3, 0, 2, 1, 3);
        isTour("the least second one", toured(5, 5, 0, 0, 0, 0), 10, 0, 1, 2);
        // From 1 or from 2 on it is as long; 0 lies between.
        isTour("the least first one that is shortest", toured(5, 0, 0, 0, 10, 0), 10, 1, 0, 2);
    }

    private void tourHowLong() {
        check.says(33, "THE TOUR of a VISITOR on the DAY of NOW: how long");
        check.due("one KITCHEN", toured(50, 50).tour(0), 0);
        check.due("two KITCHENS", toured(50, 50, 51, 52).tour(0), 3);
        SealBook corners = toured(0, 0, 99, 99, 0, 99, 99, 0, 0, 0, 99, 99, 0, 99, 99, 0);
        check.due("eight in four corners", corners.tour(0), 297);
    }

    private void tourNone() {
        check.says(33, "NONE: no such one, they VISIT none.");
        SealBook book = toured(1, 1);
        int[] visitors = {-1, 1, 5, 6, Integer.MIN_VALUE, Integer.MAX_VALUE};
        for (int visitor : visitors) {
            check.due("tour(" + visitor + ")", book.tour(visitor), NONE);
        }
        book.visitor(0, 1);
        check.due("they VISIT none", book.tour(1), NONE);
        check.due("tour(0)", book.tour(0), 0);
        book.now(1440);
        check.due("none this DAY", book.tour(0), NONE);
        check.due("VISITOR 5 of 6", Books.manyVisitors().tour(5), NONE);
    }

    private void stopOfIt() {
        check.says(34, "The k-th KITCHEN of it");
        SealBook book = toured(10, 0, 9, 0, 12, 0, 0, 0);
        int[] due = {2, 0, 1, 3};
        for (int k = 0; k < due.length; k++) {
            check.due("stop(0, " + k + ")", book.stop(0, k), due[k]);
        }
        book = toured(70, 0, 60, 0, 50, 0, 40, 0, 30, 0, 20, 0, 10, 0, 0, 0);
        check.due("the first of eight", book.stop(0, 0), 0);
        check.due("the last of eight", book.stop(0, 7), 7);
    }

    private void stopNone() {
        check.says(34, "NONE: there is none such.");
        SealBook book = toured(1, 1, 2, 2);
        int[] wrong = {-1, 2, 7, 8, Integer.MIN_VALUE, Integer.MAX_VALUE};
        for (int k : wrong) {
            check.due("stop(0, " + k + ")", book.stop(0, k), NONE);
        }
        int[] visitors = {-1, 1, 6, Integer.MIN_VALUE, Integer.MAX_VALUE};
        for (int visitor : visitors) {
            check.due("stop(" + visitor + ", 0)", book.stop(visitor, 0), NONE);
        }
        book.visitor(0, 1);
        check.due("they VISIT none", book.stop(1, 0), NONE);
        check.due("stop(0, 1)", book.stop(0, 1), 1);
        check.due("stop(0, 8) of eight", toured(new int[16]).stop(0, 8), NONE);
        check.due("stop(0, 7) of eight", toured(new int[16]).stop(0, 7), 7);
        book.now(1440);
        check.due("none this DAY", book.stop(0, 0), NONE);
    }

    /** VISITORS with WEIGHTS, and THINGS without MARKS. */
    private static SealBook heard(int... weights) {
        SealBook book = Books.at(0, "", new int[20]);
        for (int weight : weights) {
            book.visitor(0, weight);
        }
        return book;
    }

    private void words() {
        check.says(35, TERMS, "WORDS: a VISITOR tells that a THING has a MARK, or has not "
                + "(the latest word of each counts).");
        SealBook book = heard(1, 1);
        book.word(0, 3, 2, true);
        check.due("has", book.believed(3, 2), 1);
        book.word(0, 3, 2, false);
        check.due("has not, the latest", book.believed(3, 2), 0);
        book.word(0, 3, 2, true);
        book.word(0, 3, 2, true);
        check.due("told two times it counts once", book.believed(3, 2), 1);
        book.word(1, 3, 2, false);
        check.due("another one's word counts, too", book.believed(3, 2), NONE);
        book.word(0, 3, 2, false);
        check.due("both", book.believed(3, 2), 0);
        check.due("another MARK", book.believed(3, 1), NONE);
        check.due("another THING", book.believed(2, 2), NONE);
        book.word(0, 19, 7, true);
        check.due("the last MARK of the last THING", book.believed(19, 7), 1);
        check.due("what is on it stays as it was", book.mark(0, 19, 7, 0, 0), 0);
        book.now(5000);
        check.due("on a later DAY", book.believed(19, 7), 1);
    }

    private void believedTwice() {
        check.says(36, TERMS, "BELIEVED: it has (1) if the WEIGHTS of those who tell so are more than twice "
                + "those of the others, has not (0) if it is the other way round, else NONE.");
        int[][] due = {{9, 4, 1}, {8, 4, NONE}, {7, 4, NONE}, {4, 8, NONE}, {4, 9, 0}, {1, 2, NONE}, {1, 3, 0},
            {2, 1, NONE}, {3, 1, 1}, {1, 1, NONE}, {9, 9, NONE}};
        for (int[] one : due) {
            SealBook book = heard(one[0], one[1]);
            book.word(0, 0, 0, true);
            book.word(1, 0, 0, false);
            check.due("WEIGHTS " + one[0] + " to " + one[1], book.believed(0, 0), one[2]);
        }
        SealBook book = heard(9, 9, 9, 9, 4, 9);
        for (int k = 0; k < 6; k++) {
            book.word(k, 0, 0, k > 2);
        }
        check.due("22 to 27", book.believed(0, 0), NONE);
        book.word(0, 0, 0, true);
        check.due("31 to 18", book.believed(0, 0), NONE);
        book.word(1, 0, 0, true);
        check.due("40 to 9", book.believed(0, 0), 1);
        check.due("nobody", heard(9, 9).believed(0, 0), NONE);
        book = heard(1, 9, 9);
        book.word(0, 0, 0, true);
        // Read so: the others are those who tell the contrary.
        check.due("one who has the least WEIGHT, the others tell nothing", book.believed(0, 0), 1);
    }

    private void wordTrue() {
        check.says(35, "A VISITOR's WORD: true");
        SealBook book = heard(1, 1, 1, 1, 1, 1);
        check.is("the least", book.word(0, 0, 0, true));
        check.is("the greatest", book.word(5, 19, 7, false));
        check.is("the same once more", book.word(5, 19, 7, false));
        check.is("the contrary", book.word(5, 19, 7, true));
    }

    private void wordFalse() {
        check.says(35, "false: no such ones.");
        // Two VISITORS, three THINGS.
        int[][] wrong = {{-1, 0, 0}, {2, 0, 0}, {6, 0, 0}, {0, -1, 0}, {0, 3, 0}, {0, 20, 0}, {0, 0, -1}, {0, 0, 8}};
        for (int[] one : wrong) {
            check.refused("word" + java.util.Arrays.toString(one), Books::small,
                    book -> book.word(one[0], one[1], one[2], true));
            check.refused("no word" + java.util.Arrays.toString(one), Books::small,
                    book -> book.word(one[0], one[1], one[2], false));
        }
        for (int far : FAR) {
            check.refused("VISITOR " + far, Books::small, book -> book.word(far, 0, 0, true));
            check.refused("THING " + far, Books::small, book -> book.word(0, far, 0, true));
            check.refused("MARK " + far, Books::small, book -> book.word(0, 0, far, true));
        }
        check.not("THING 20 of 20", heard(1).word(0, 20, 0, true));
    }

    private void believedOneAndZero() {
        check.says(36, "BELIEVED: 1, 0");
        SealBook book = heard(4, 2, 1);
        book.word(2, 1, 1, true);
        check.due("1", book.believed(1, 1), 1);
        book.word(1, 1, 1, false);
        check.due("1 to 2", book.believed(1, 1), NONE);
        book.word(0, 1, 1, false);
        check.due("1 to 6", book.believed(1, 1), 0);
    }

    private void believedNone() {
        check.says(36, "NONE: neither, no such ones.");
        SealBook book = heard(1, 1);
        check.due("no words", book.believed(0, 0), NONE);
        book.word(0, 0, 0, true);
        book.word(1, 0, 0, false);
        check.due("neither", book.believed(0, 0), NONE);
        int[][] wrong = {{-1, 0}, {20, 0}, {0, -1}, {0, 8}};
        for (int[] one : wrong) {
            check.due("believed" + java.util.Arrays.toString(one), book.believed(one[0], one[1]), NONE);
        }
        for (int far : FAR) {
            check.due("THING " + far, book.believed(far, 0), NONE);
            check.due("MARK " + far, book.believed(0, far), NONE);
        }
        book = Books.small();
        check.due("THING 3 of 3", book.believed(3, 0), NONE);
        check.due("told of THING 1", book.believed(1, 0), 1);
    }
}
