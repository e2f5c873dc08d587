import java.io.IOException;
import java.nio.file.Files;
import java.nio.file.Path;
import java.util.Map;
import java.util.TreeMap;

/** The document's words, part by part, and which of them are quoted by a test. */
final class Quotes {
    private static final int PROMISES = 38;

    private final Map<String, String> parts = new TreeMap<>();
    private final Map<String, boolean[]> quoted = new TreeMap<>();

    Quotes(Path document) throws IOException {
        String text = Files.readString(document).replaceAll("```[a-z]*", " ").replaceAll("\\s+", " ");
        String use = text.substring(text.indexOf("An object is used"), text.indexOf("## The public face"));
        put("What it is", use);
        String terms = text.substring(text.indexOf("## Terms"), text.indexOf("## Promise 1:"));
        int end = terms.indexOf("All memory");
        for (int part = 1; part <= 5; part++) {
            int from = terms.indexOf("==== " + part + ".");
            int to = part < 5 ? terms.indexOf("==== " + (part + 1) + ".") : end;
            put("Terms " + part, terms.substring(from, to).replaceFirst("==== \\d\\. (TIME\\. )?", ""));
        }
        put("Terms", terms.substring(end));
        for (int promise = 1; promise <= PROMISES; promise++) {
            int from = text.indexOf("## Promise " + promise + ":");
            int to = text.indexOf("## ", from + 3);
            put("Promise " + promise, text.substring(from, to).replaceFirst("## Promise \\d+: .*?`[^`]*`: ", ""));
        }
    }

    private void put(String part, String text) {
        parts.put(part, text.strip());
        quoted.put(part, new boolean[text.strip().length()]);
    }

    /** Each quote stands where it says; and all that the document says is quoted, for each promise some of it. */
    void check(Check check) {
        boolean[] named = new boolean[PROMISES + 1];
        for (Check.Quote quote : check.quotes()) {
            named[quote.promise()] = true;
            check.is(quote.place() + " says \"" + quote.words() + "\"", mark(quote));
        }
        for (int promise = 1; promise <= PROMISES; promise++) {
            check.is("there is a sentence of promise " + promise, named[promise]);
        }
        for (String part : parts.keySet()) {
            String left = left(part);
            check.is("of " + part + " no test asks for: " + left, left.isEmpty());
        }
    }

    private boolean mark(Check.Quote quote) {
        String text = parts.getOrDefault(quote.place(), "");
        int at = text.indexOf(quote.words());
        for (int from = at; from >= 0; from = text.indexOf(quote.words(), from + 1)) {
            java.util.Arrays.fill(quoted.get(quote.place()), from, from + quote.words().length(), true);
        }
        return at >= 0;
    }

    private String left(String part) {
        StringBuilder left = new StringBuilder();
        for (int k = 0; k < parts.get(part).length(); k++) {
            left.append(quoted.get(part)[k] ? ' ' : parts.get(part).charAt(k));
        }
        return left.toString().replaceAll("[ .,:;()]+", " ").strip();
    }
}
