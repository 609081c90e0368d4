/** Puts texts on the tape of a BooksMoved, and makes books with them. */
final class Tapes {
    private Tapes() {
    }

    /** The n-th word (0 .. 4) of a text of up to twenty signs, filled up with zeros. */
    static int word(String text, int n) {
        int word = 0;
        for (int i = 4 * n; i < 4 * n + 4; i++) {
            word = word << 8 | (i < text.length() ? text.charAt(i) & 255 : 0);
        }
        return word;
    }

    static void put(BooksMoved x, String text) {
        x.end(0);
        x.feed(word(text, 0), word(text, 1), word(text, 2), word(text, 3), word(text, 4));
        x.end(text.length());
    }

    static int book(BooksMoved x, String mark, int house, int thick, int tall) {
        put(x, mark);
        return x.book(house, thick, tall);
    }

    /** A book that is told by its mark alone. */
    static int book(BooksMoved x, String mark) {
        return book(x, mark, 0, 10, 20);
    }

    static BooksMoved withMarks(String... marks) {
        BooksMoved x = new BooksMoved();
        for (String mark : marks) {
            book(x, mark);
        }
        return x;
    }
}
