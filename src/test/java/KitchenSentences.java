/** What the document says of kitchens, trust and lots: a test for each sentence. */
final class KitchenSentences {
    private static final String TERMS = "Terms 4";
    private static final int NONE = SealBook.NONE;
    private static final int[] FAR = {Integer.MIN_VALUE, Integer.MAX_VALUE};

    private final Check check;

    KitchenSentences(Check check) {
        this.check = check;
    }

    void ask() {
        kitchens();
        kitchenSchool();
        kitchenOverseer();
        kitchenPlace();
        trustsAsTold();
        kitchenNumber();
        kitchenNone();
        overseeTrue();
        overseeFalse();
        trustTrue();
        trustFalse();
        lots();
        goodWhereMade();
        goodOfThoseThatPass();
        goodOfThoseThatStay();
        goodAsSuch();
        goodPutTo();
        passesAtMost();
        lotNumber();
        lotNone();
        passTrue();
        passFalse();
        unitsThere();
        unitsNone();
        goodWhat();
        goodOthers();
        recallBits();
        recallNone();
    }

    private void kitchens() {
        check.says(20, TERMS, "KITCHENS 0 to 7,");
        SealBook book = Books.kitchens(7);
        check.due("lot in KITCHEN 7, not there", book.lot(7, 1), NONE);
        check.not("oversee(7, 0), not there", book.oversee(7, 0));
        check.due("KITCHEN 7", book.kitchen(0, 0, 0, 0), 7);
        check.due("lot in it", book.lot(7, 1), 1);
        check.is("oversee(7, 0)", book.oversee(7, 0));
        check.is("pass to it", book.pass(0, 0, 7, 1, true));
        check.due("units in it", book.units(0, 7), 1);
        check.due("KITCHEN 8", book.kitchen(0, 0, 0, 0), NONE);
        check.due("lot in KITCHEN 8", book.lot(8, 1), NONE);
    }

    private void kitchenSchool() {
        check.says(20, TERMS, "each of a SCHOOL,");
        check.due("SCHOOL -1", new SealBook().kitchen(-1, 0, 0, 0), NONE);
        check.due("SCHOOL 2", new SealBook().kitchen(2, 0, 0, 0), NONE);
        for (int school = 0; school < 2; school++) {
            SealBook book = new SealBook();
            check.due("SCHOOL " + school, book.kitchen(school, 0, 0, 0), 0);
            book.visitor(1, 1);
            check.due("VISITORS of SCHOOL 1 for it", book.row(), school);
        }
    }

    private void kitchenOverseer() {
        check.says(20, TERMS, "with an OVERSEER (0 to 7),");
        check.due("OVERSEER -1", new SealBook().kitchen(0, -1, 0, 0), NONE);
        check.due("OVERSEER 8", new SealBook().kitchen(0, 8, 0, 0), NONE);
        for (int overseer = 0; overseer < 8; overseer++) {
            SealBook book = new SealBook();
            check.due("OVERSEER " + overseer, book.kitchen(0, overseer, 0, 0), 0);
            book.lot(0, 5);
            for (int other = 0; other < 8; other++) {
                book.trust(0, other, true);
                check.due("TRUST in " + other, book.good(0, 0, 0, 0), overseer == other ? 5 : 0);
                book.trust(0, other, false);
            }
        }
    }

    private void kitchenPlace() {
        check.says(20, TERMS, "at a PLACE of two numbers (0 to 99 each).");
        int[][] wrong = {{-1, 0}, {100, 0}, {0, -1}, {0, 100}};
        for (int[] one : wrong) {
            check.due("PLACE " + one[0] + ", " + one[1], new SealBook().kitchen(0, 0, one[0], one[1]), NONE);
        }
        int[][] right = {{0, 0}, {99, 0}, {0, 99}, {99, 99}, {1, 98}};
        for (int[] one : right) {
            SealBook book = new SealBook();
            book.kitchen(0, 0, 0, 0);
            check.due("PLACE " + one[0] + ", " + one[1], book.kitchen(0, 0, one[0], one[1]), 1);
            book.visitor(0, 1);
            book.draw();
            book.draw();
            check.due("the way to it", book.tour(0), one[0] + one[1]);
        }
    }

    private void trustsAsTold() {
        check.says(22, TERMS, "A SCHOOL TRUSTS OVERSEERS, as told (none at first).");
        SealBook book = Books.kitchens(8);
        for (int k = 1; k < 8; k++) {
            book.lot(k, 10);
        }
        for (int k = 0; k < 8; k++) {
            check.due("at first, SCHOOL 0", book.good(0, k, k, 1), 0);
            check.due("at first, SCHOOL 1", book.good(1, k, k, 1), 0);
        }
        book.trust(1, 6, true);
        for (int k = 1; k < 8; k++) {
            check.due("OVERSEER " + k + ", SCHOOL 0", book.good(0, k, k, 1), 0);
            check.due("OVERSEER " + k + ", SCHOOL 1", book.good(1, k, k, 1), k == 6 ? 10 : 0);
        }
    }

    private void kitchenNumber() {
        check.says(20, "A KITCHEN: its number");
        SealBook book = new SealBook();
        for (int k = 0; k < 8; k++) {
            check.due("number", book.kitchen(k % 2, 7, 99, 99), k);
        }
        check.due("KITCHENS", book.count(5), 8);
    }

    private void kitchenNone() {
        check.says(20, "NONE: no such ones, 8 are there.");
        int[][] wrong = {{-1, 0, 0, 0}, {2, 0, 0, 0}, {0, -1, 0, 0}, {0, 8, 0, 0}, {0, 0, -1, 0}, {0, 0, 100, 0},
            {0, 0, 0, -1}, {0, 0, 0, 100}};
        for (int[] one : wrong) {
            check.none("kitchen" + java.util.Arrays.toString(one), Books::small,
                    book -> book.kitchen(one[0], one[1], one[2], one[3]));
        }
        for (int far : FAR) {
            check.none("SCHOOL " + far, Books::small, book -> book.kitchen(far, 0, 0, 0));
            check.none("OVERSEER " + far, Books::small, book -> book.kitchen(0, far, 0, 0));
            check.none("x " + far, Books::small, book -> book.kitchen(0, 0, far, 0));
            check.none("y " + far, Books::small, book -> book.kitchen(0, 0, 0, far));
        }
        check.due("one more", Books.small().kitchen(1, 7, 99, 99), 2);
        check.none("a ninth", () -> Books.kitchens(8), book -> book.kitchen(0, 0, 0, 0));
    }

    private void overseeTrue() {
        check.says(21, "A KITCHEN has another OVERSEER: true");
        SealBook book = Books.kitchens(8);
        book.trust(0, 3, true);
        check.due("by OVERSEER 0", book.good(0, 0, 0, 0), 0);
        check.is("oversee(0, 3)", book.oversee(0, 3));
        check.due("by OVERSEER 3", book.good(0, 0, 0, 0), 100);
        check.is("oversee(0, 7)", book.oversee(0, 7));
        check.due("by OVERSEER 7", book.good(0, 0, 0, 0), 0);
        check.is("oversee(0, 0)", book.oversee(0, 0));
        check.is("oversee(7, 7)", book.oversee(7, 7));
        book.oversee(1, 3);
        check.due("that of another KITCHEN", book.good(0, 0, 0, 0), 0);
        // Read so: who is told once more is there, and this is not refused.
        check.is("the one that it has", book.oversee(0, 0));
    }

    private void overseeFalse() {
        check.says(21, "false: no such ones.");
        int[][] wrong = {{-1, 0}, {2, 0}, {8, 0}, {0, -1}, {0, 8}, {1, -1}, {1, 8}};
        for (int[] one : wrong) {
            check.refused("oversee" + java.util.Arrays.toString(one), Books::small,
                    book -> book.oversee(one[0], one[1]));
        }
        for (int far : FAR) {
            check.refused("KITCHEN " + far, Books::small, book -> book.oversee(far, 0));
            check.refused("OVERSEER " + far, Books::small, book -> book.oversee(0, far));
        }
        check.not("without KITCHENS", new SealBook().oversee(0, 0));
    }

    private void trustTrue() {
        check.says(22, "A SCHOOL TRUSTS an OVERSEER (is), or not any more: true");
        SealBook book = new SealBook();
        for (int school = 0; school < 2; school++) {
            for (int overseer = 0; overseer < 8; overseer++) {
                check.is("TRUSTS", book.trust(school, overseer, true));
            }
        }
        book.kitchen(0, 4, 0, 0);
        book.lot(0, 9);
        check.due("by SCHOOL 1", book.good(1, 0, 0, 0), 9);
        check.is("not any more", book.trust(1, 4, false));
        check.due("by SCHOOL 1", book.good(1, 0, 0, 0), 0);
        check.due("by SCHOOL 0", book.good(0, 0, 0, 0), 9);
        check.is("and again", book.trust(1, 4, true));
        check.due("by SCHOOL 1", book.good(1, 0, 0, 0), 9);
    }

    private void trustFalse() {
        check.says(22, "false: no such ones, it is so.");
        int[][] wrong = {{-1, 0}, {2, 0}, {0, -1}, {0, 8}, {1, -1}, {1, 8}};
        for (int[] one : wrong) {
            check.refused("trust" + java.util.Arrays.toString(one), Books::small,
                    book -> book.trust(one[0], one[1], true));
            check.refused("no trust" + java.util.Arrays.toString(one), Books::small,
                    book -> book.trust(one[0], one[1], false));
        }
        for (int far : FAR) {
            check.refused("SCHOOL " + far, Books::small, book -> book.trust(far, 0, true));
            check.refused("OVERSEER " + far, Books::small, book -> book.trust(0, far, true));
        }
        check.refused("it TRUSTS already", Books::small, book -> book.trust(0, 1, true));
        check.refused("it doesn't", Books::small, book -> book.trust(0, 2, false));
        check.refused("it doesn't at first", SealBook::new, book -> book.trust(1, 7, false));
        check.refused("it doesn't any more", () -> {
            SealBook book = Books.small();
            book.trust(0, 1, false);
            return book;
        }, book -> book.trust(0, 1, false));
    }

    private void lots() {
        check.says(23, TERMS, "LOTS 0 to 9: so many UNITS made in a KITCHEN;");
        SealBook book = Books.kitchens(3);
        for (int k = 1; k < 9; k++) {
            book.lot(k % 3, 10 * k);
        }
        check.due("units of LOT 9, not there", book.units(9, 0), NONE);
        check.due("LOT 9", book.lot(0, 90), 9);
        check.due("LOT 10", book.lot(0, 100), NONE);
        check.due("units of LOT 10", book.units(10, 0), NONE);
        for (int lot = 1; lot < 10; lot++) {
            for (int k = 0; k < 3; k++) {
                check.due("UNITS of LOT " + lot + " in " + k, book.units(lot, k), lot % 3 == k ? 10 * lot : 0);
            }
        }
    }

    private void isGood(String what, SealBook book, int kitchen, int least, int most) {
        check.due(what + ", least", book.good(0, 0, kitchen, 0), least);
        check.due(what + ", most", book.good(0, 0, kitchen, 1), most);
    }

    private void goodWhereMade() {
        check.says(26, TERMS, "GOOD, as seen by a SCHOOL, are least and most UNITS of a LOT in each KITCHEN: "
                + "where it was made all of them if the SCHOOL TRUSTS its OVERSEER, else none.");
        SealBook book = Books.kitchens(3);
        isGood("without trust", book, 0, 0, 0);
        book.trust(0, 0, true);
        isGood("with it", book, 0, 100, 100);
        isGood("elsewhere", book, 1, 0, 0);
        check.due("SCHOOL 1", book.good(1, 0, 0, 1), 0);
        book.trust(0, 0, false);
        isGood("without it again", book, 0, 0, 0);
        book.trust(0, 5, true);
        book.oversee(0, 5);
        isGood("by another OVERSEER", book, 0, 100, 100);
        book.lot(0, 1);
        check.due("LOT of one", book.good(0, 1, 0, 0), 1);
        book.lot(0, 100000);
        check.due("the greatest LOT", book.good(0, 2, 0, 1), 100000);
    }

    /** KITCHEN 1 has 100 UNITS, 40 of them GOOD; n of them PASS to KITCHEN 2 under a seal. */
    private static SealBook someGood(int n) {
        SealBook book = Books.kitchens(3);
        book.trust(0, 0, true);
        book.trust(0, 1, true);
        book.pass(0, 0, 1, 40, true);
        book.pass(0, 0, 1, 60, false);
        book.pass(0, 1, 2, n, true);
        return book;
    }

    private void goodOfThoseThatPass() {
        check.says(26, TERMS, "of these n GOOD are at least n less those that are not surely GOOD there "
                + "(all there less the least; 0 at least), at most n, and the most there;");
        int[][] due = {{1, 0, 1}, {39, 0, 39}, {40, 0, 40}, {41, 0, 40}, {59, 0, 40}, {60, 0, 40}, {61, 1, 40},
            {99, 39, 40}, {100, 40, 40}};
        for (int[] one : due) {
            isGood(one[0] + " that PASS", someGood(one[0]), 2, one[1], one[2]);
        }
        SealBook book = Books.kitchens(2);
        book.trust(0, 0, true);
        book.pass(0, 0, 1, 100, true);
        isGood("all, all GOOD", book, 1, 100, 100);
        book = Books.kitchens(2);
        book.trust(0, 1, true);
        book.pass(0, 0, 1, 100, true);
        isGood("all, none GOOD", book, 1, 0, 0);
    }

    private void goodOfThoseThatStay() {
        check.says(26, TERMS, "what stays is GOOD at least the least less n (0 at least), at most the most, "
                + "and all that stays.");
        int[][] due = {{1, 39, 40}, {39, 1, 40}, {40, 0, 40}, {41, 0, 40}, {59, 0, 40}, {60, 0, 40}, {61, 0, 39},
            {99, 0, 1}, {100, 0, 0}};
        for (int[] one : due) {
            isGood("when " + one[0] + " went", someGood(one[0]), 1, one[1], one[2]);
        }
        SealBook book = Books.kitchens(2);
        book.trust(0, 0, true);
        book.pass(0, 0, 1, 99, false);
        isGood("one of all GOOD", book, 0, 1, 1);
        book.pass(0, 0, 1, 1, false);
        isGood("none", book, 0, 0, 0);
    }

    private void goodAsSuch() {
        check.says(26, TERMS, "They come GOOD as such if it was under a seal and the SCHOOL TRUSTS the OVERSEER "
                + "of the KITCHEN from which they came (as it is when asked), else none is.");
        for (int which = 0; which < 8; which++) {
            boolean sealed = which % 2 == 1;
            boolean trusted = which / 2 % 2 == 1;
            SealBook book = Books.kitchens(3);
            book.trust(0, 0, true);
            book.trust(0, 1, trusted);
            book.trust(0, 2, which / 4 == 1);
            book.pass(0, 0, 1, 100, true);
            book.pass(0, 1, 2, 100, sealed);
            int due = sealed && trusted ? 100 : 0;
            isGood("sealed " + sealed + ", trusted " + trusted, book, 2, due, due);
        }
        SealBook book = Books.kitchens(2);
        book.pass(0, 0, 1, 30, true);
        isGood("no trust when it went", book, 1, 0, 0);
        book.trust(0, 0, true);
        isGood("trust when asked", book, 1, 30, 30);
        book.trust(0, 0, false);
        isGood("no trust when asked", book, 1, 0, 0);
        book.trust(0, 6, true);
        book.oversee(0, 6);
        isGood("another OVERSEER when asked", book, 1, 30, 30);
        check.due("SCHOOL 1", book.good(1, 0, 1, 1), 0);
        book.oversee(0, 5);
        isGood("yet another one", book, 1, 0, 0);
    }

    private void goodPutTo() {
        check.says(26, TERMS, "They are put to those that are there.");
        SealBook book = Books.kitchens(3);
        book.trust(0, 0, true);
        book.trust(0, 1, true);
        book.pass(0, 0, 2, 10, true);
        book.pass(0, 0, 2, 5, false);
        book.pass(0, 0, 2, 20, true);
        isGood("30 of 35", book, 2, 30, 30);
        check.due("UNITS", book.units(0, 2), 35);
        book.pass(0, 0, 1, 20, false);
        book.pass(0, 0, 1, 20, true);
        book.pass(0, 1, 2, 25, true);
        isGood("5 to 20 more", book, 2, 35, 50);
        book.pass(0, 1, 0, 15, true);
        isGood("back where they were made", book, 0, 25, 40);
        check.due("UNITS there", book.units(0, 0), 40);
        book.lot(1, 50);
        book.pass(1, 1, 2, 30, true);
        check.due("another LOT where it was made", book.good(0, 1, 1, 0), 20);
        check.due("another LOT where it came", book.good(0, 1, 2, 0), 30);
        check.due("none of it elsewhere", book.good(0, 1, 0, 1), 0);
        isGood("the first LOT is as it was", book, 2, 35, 50);
    }

    private void passesAtMost() {
        check.says(24, TERMS, "n UNITS PASS from a KITCHEN to another one under a seal, or not "
                + "(100 PASSES of all LOTS at most):");
        SealBook book = Books.kitchens(2);
        book.lot(1, 10);
        for (int k = 0; k < 100; k++) {
            boolean is = k < 50 ? book.pass(0, 0, 1, 1, true) : book.pass(1, 1 - k % 2, k % 2, 10, false);
            check.is("PASS " + (k + 1), is);
        }
        check.not("PASS 101", book.pass(0, 0, 1, 1, true));
        book = Books.manyPasses();
        check.due("PASSES", book.count(7), 100);
        check.not("of LOT 0", book.pass(0, 0, 1, 1, true));
        check.not("of LOT 1", book.pass(1, 1, 0, 1, true));
        book.lot(0, 7);
        check.not("of a new LOT", book.pass(2, 0, 1, 1, true));
        check.due("its UNITS stay", book.units(2, 0), 7);
        for (int sealed = 0; sealed < 2; sealed++) {
            book = Books.kitchens(2);
            book.trust(0, 0, true);
            book.trust(0, 1, true);
            for (int k = 0; k < 99; k++) {
                book.pass(0, k % 2, 1 - k % 2, 100, true);
            }
            isGood("behind 99 PASSES", book, 1, 100, 100);
            book.pass(0, 1, 0, 100, sealed == 1);
            isGood("behind 100 PASSES, sealed " + sealed, book, 0, 100 * sealed, 100 * sealed);
        }
    }

    private void lotNumber() {
        check.says(23, "A LOT of so many UNITS (1 to 100000): its number");
        SealBook book = Books.kitchens(1);
        check.due("0 UNITS", book.lot(0, 0), NONE);
        check.due("100001 UNITS", book.lot(0, 100001), NONE);
        check.due("1 UNIT", book.lot(0, 1), 1);
        check.due("100000 UNITS", book.lot(0, 100000), 2);
        check.due("UNITS of the one", book.units(1, 0), 1);
        check.due("UNITS of the other one", book.units(2, 0), 100000);
        check.due("LOTS", book.count(6), 3);
    }

    private void lotNone() {
        check.says(23, "NONE: no such ones, 10 are there.");
        int[][] wrong = {{-1, 1}, {2, 1}, {8, 1}, {0, 0}, {0, -1}, {0, 100001}};
        for (int[] one : wrong) {
            check.none("lot" + java.util.Arrays.toString(one), Books::small, book -> book.lot(one[0], one[1]));
        }
        for (int far : FAR) {
            check.none("KITCHEN " + far, Books::small, book -> book.lot(far, 1));
            check.none("UNITS " + far, Books::small, book -> book.lot(0, far));
        }
        check.none("without KITCHENS", SealBook::new, book -> book.lot(0, 1));
        check.none("an eleventh", Books::manyLots, book -> book.lot(0, 1));
        check.due("LOTS", Books.manyLots().count(6), 10);
    }

    private void passTrue() {
        check.says(24, "n UNITS of a LOT PASS: true");
        SealBook book = Books.kitchens(8);
        check.is("one", book.pass(0, 0, 7, 1, false));
        check.is("all that are left", book.pass(0, 0, 1, 99, true));
        check.is("some of them back", book.pass(0, 1, 0, 98, true));
        int[] due = {98, 1, 0, 0, 0, 0, 0, 1};
        for (int k = 0; k < 8; k++) {
            check.due("UNITS in KITCHEN " + k, book.units(0, k), due[k]);
        }
        check.due("PASSES", book.count(7), 3);
        book.lot(3, 100000);
        check.is("the most", book.pass(1, 3, 4, 100000, true));
        check.due("none left", book.units(1, 3), 0);
    }

    private void passFalse() {
        check.says(24, "false: no such ones (a is b, n below 1, too), not so many there, 100 PASSES were.");
        // LOT 0 has 30 UNITS in KITCHEN 0 and 20 in KITCHEN 1.
        int[][] wrong = {{-1, 0, 1, 1}, {1, 0, 1, 1}, {0, -1, 1, 1}, {0, 2, 1, 1}, {0, 0, -1, 1}, {0, 0, 2, 1},
            {0, 0, 0, 1}, {0, 1, 1, 1}, {0, 0, 1, 0}, {0, 0, 1, -1}, {0, 0, 1, 31}, {0, 1, 0, 21}, {0, 0, 1, 100000}};
        for (int[] one : wrong) {
            check.refused("pass" + java.util.Arrays.toString(one), Books::small,
                    book -> book.pass(one[0], one[1], one[2], one[3], true));
        }
        for (int far : FAR) {
            check.refused("LOT " + far, Books::small, book -> book.pass(far, 0, 1, 1, true));
            check.refused("a " + far, Books::small, book -> book.pass(0, far, 1, 1, true));
            check.refused("b " + far, Books::small, book -> book.pass(0, 0, far, 1, true));
            check.refused("n " + far, Books::small, book -> book.pass(0, 0, 1, far, true));
        }
        check.is("all 30", Books.small().pass(0, 0, 1, 30, true));
        check.is("all 20", Books.small().pass(0, 1, 0, 20, true));
        check.refused("a 101st", Books::manyPasses, book -> book.pass(0, 0, 1, 1, true));
    }

    private void unitsThere() {
        check.says(25, "UNITS of a LOT in a KITCHEN");
        SealBook book = Books.kitchens(8);
        book.lot(7, 100000);
        book.pass(0, 0, 3, 60, true);
        book.pass(0, 3, 0, 60, true);
        book.pass(1, 7, 0, 1, false);
        int[][] due = {{0, 0, 100}, {0, 3, 0}, {0, 7, 0}, {1, 0, 1}, {1, 7, 99999}, {1, 3, 0}};
        for (int[] one : due) {
            check.due("units(" + one[0] + ", " + one[1] + ")", book.units(one[0], one[1]), one[2]);
        }
    }

    private void unitsNone() {
        check.says(25, "NONE: no such ones.");
        SealBook book = Books.small();
        int[][] wrong = {{-1, 0}, {1, 0}, {10, 0}, {0, -1}, {0, 2}, {0, 8}};
        for (int[] one : wrong) {
            check.due("units" + java.util.Arrays.toString(one), book.units(one[0], one[1]), NONE);
        }
        for (int far : FAR) {
            check.due("LOT " + far, book.units(far, 0), NONE);
            check.due("KITCHEN " + far, book.units(0, far), NONE);
        }
        check.due("LOT 9 of 10", Books.manyLots().units(9, 1), 9);
        check.due("LOT 10 of 10", Books.manyLots().units(10, 1), NONE);
    }

    private void goodWhat() {
        check.says(26, "GOOD ones of them, as seen by a SCHOOL, what 0 the least, 1 the most.");
        SealBook book = someGood(61);
        book.trust(1, 0, true);
        int[][] due = {{0, 0, 0, 0}, {0, 1, 0, 39}, {0, 2, 1, 40}, {1, 1, 0, 39}, {1, 2, 0, 0}};
        for (int[] one : due) {
            String what = "SCHOOL " + one[0] + ", KITCHEN " + one[1];
            check.due(what + ", least", book.good(one[0], 0, one[1], 0), one[2]);
            check.due(what + ", most", book.good(one[0], 0, one[1], 1), one[3]);
        }
        book.lot(2, 5);
        check.due("another LOT", book.good(0, 1, 2, 1), 0);
        book.trust(0, 2, true);
        check.due("another LOT, TRUSTED", book.good(0, 1, 2, 0), 5);
    }

    private void goodOthers() {
        check.says(26, "NONE for others.");
        SealBook book = Books.small();
        int[][] wrong = {{-1, 0, 0, 0}, {2, 0, 0, 0}, {0, -1, 0, 0}, {0, 1, 0, 0}, {0, 10, 0, 0}, {0, 0, -1, 0},
            {0, 0, 2, 0}, {0, 0, 8, 0}, {0, 0, 0, -1}, {0, 0, 0, 2}};
        for (int[] one : wrong) {
            check.due("good" + java.util.Arrays.toString(one), book.good(one[0], one[1], one[2], one[3]), NONE);
        }
        for (int far : FAR) {
            check.due("SCHOOL " + far, book.good(far, 0, 0, 0), NONE);
            check.due("LOT " + far, book.good(0, far, 0, 0), NONE);
            check.due("KITCHEN " + far, book.good(0, 0, far, 0), NONE);
            check.due("what " + far, book.good(0, 0, 0, far), NONE);
        }
        check.due("the greatest", Books.manyLots().good(1, 9, 1, 1), 0);
    }

    private void recallBits() {
        check.says(27, "KITCHENS in which UNITS of a LOT are, or were, as bits");
        SealBook book = Books.kitchens(8);
        book.lot(7, 4);
        check.due("where it was made", book.recall(0), 1);
        check.due("where it was made", book.recall(1), 128);
        book.pass(0, 0, 7, 100, true);
        check.due("were in 0, are in 7", book.recall(0), 129);
        book.pass(0, 7, 3, 50, false);
        check.due("and in 3", book.recall(0), 137);
        book.pass(0, 3, 0, 50, false);
        check.due("they went back", book.recall(0), 137);
        check.due("LOT 1", book.recall(1), 128);
        book.pass(1, 7, 2, 5, true);
        check.due("a PASS that was refused", book.recall(1), 128);
        for (int k = 0; k < 7; k++) {
            book.pass(1, k == 0 ? 7 : k - 1, k, 4, true);
        }
        check.due("all", book.recall(1), 255);
    }

    private void recallNone() {
        check.says(27, "NONE: no such one.");
        int[] lots = {-1, 1, 10, Integer.MIN_VALUE, Integer.MAX_VALUE};
        for (int lot : lots) {
            check.due("recall(" + lot + ")", Books.small().recall(lot), NONE);
        }
        check.due("recall(9) of 10", Books.manyLots().recall(9), 2);
        check.due("recall(10) of 10", Books.manyLots().recall(10), NONE);
        check.due("recall(0) of none", new SealBook().recall(0), NONE);
    }
}
