/** Feeds texts to a book. */
final class Texts {
    private Texts() {
    }

    /** Feeds a text (blanks behind it up to twenties) and makes it a law; answers what law answers. */
    static int law(SealBook book, int school, boolean feast, String text) {
        feed(book, text);
        return book.law(school, feast, text.length());
    }

    static void feed(SealBook book, String text) {
        for (int at = 0; at < text.length(); at += 20) {
            book.feed(word(text, at), word(text, at + 4), word(text, at + 8), word(text, at + 12), word(text, at + 16));
        }
    }

    static int word(String text, int at) {
        int four = 0;
        for (int k = at; k < at + 4; k++) {
            four = four << 8 | (k < text.length() ? text.charAt(k) & 255 : ' ');
        }
        return four;
    }
}
