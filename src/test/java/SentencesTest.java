import java.io.IOException;
import java.nio.file.Files;
import java.nio.file.Path;

/**
 * The document sentence by sentence: each names a bound, a case with nothing in it, a full one, a wrap-around or a
 * refused call, and has a test of its own, on both sides of the bound. What is quoted is held against the document.
 */
public final class SentencesTest {
    public static void main(String[] args) throws IOException {
        Check check = new Check("SentencesTest");
        new TimeSentences(check).ask();
        new LawSentences(check).ask();
        new MarkSentences(check).ask();
        new ActSentences(check).ask();
        new TraceSentences(check).ask();
        new KitchenSentences(check).ask();
        new VisitSentences(check).ask();
        new CountSentences(check).ask();
        Path document = Path.of("../shared/DOC.md");
        if (Files.exists(document)) {
            new Quotes(document).check(check);
        }
        check.end();
    }
}
