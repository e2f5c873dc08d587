import java.util.ArrayList;
import java.util.Arrays;
import java.util.List;
import java.util.function.Predicate;
import java.util.function.Supplier;
import java.util.function.ToIntFunction;

/** Counts what is as it must be and prints what is not. */
final class Check {
    /** Words of the document, the part of it in which they stand, and the promise that they belong to. */
    record Quote(int promise, String place, String words) { }

    private final String name;
    private final List<Quote> quotes = new ArrayList<>();
    private String sentence = "";
    private int before;
    private int right;
    private int wrong;

    Check(String name) {
        this.name = name;
    }

    /** What comes behind this call is the test of one sentence of a promise. */
    void says(int promise, String words) {
        says(promise, "Promise " + promise, words);
    }

    /** The like for a sentence that stands elsewhere. */
    void says(int promise, String place, String words) {
        endSentence();
        quotes.add(new Quote(promise, place, words));
        sentence = "promise " + promise + " (" + place + ": \"" + words + "\"): ";
    }

    private void endSentence() {
        if (!sentence.isEmpty()) {
            boolean isAsked = right + wrong > before;
            is("it is asked for", isAsked);
        }
        sentence = "";
        before = right + wrong;
    }

    List<Quote> quotes() {
        endSentence();
        return quotes;
    }

    void due(String what, long got, long want) {
        if (got == want) {
            right++;
        } else {
            wrong++;
            System.out.println(name + ": " + sentence + what + " answered " + got + ", due is " + want);
        }
    }

    void is(String what, boolean is) {
        if (is) {
            right++;
        } else {
            wrong++;
            System.out.println(name + ": " + sentence + "not so: " + what);
        }
    }

    void not(String what, boolean is) {
        is("not " + what, !is);
    }

    /** A call on a book that answers NONE and leaves the book as it was. */
    void none(String what, Supplier<SealBook> made, ToIntFunction<SealBook> call) {
        SealBook book = made.get();
        due(what, call.applyAsInt(book), SealBook.NONE);
        isAsMade(what, book, made.get());
    }

    /** A call on a book that answers false and leaves the book as it was. */
    void refused(String what, Supplier<SealBook> made, Predicate<SealBook> call) {
        SealBook book = made.get();
        not(what, call.test(book));
        isAsMade(what, book, made.get());
    }

    private void isAsMade(String what, SealBook book, SealBook made) {
        is(what + " leaves all as it was", Arrays.equals(Snapshot.of(book), Snapshot.of(made)));
    }

    void end() {
        endSentence();
        System.out.println(name + ": " + right + " as due, " + wrong + " not");
        if (wrong > 0 || right == 0) {
            System.exit(1);
        }
    }
}
