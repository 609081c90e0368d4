import java.util.ArrayList;
import java.util.List;
import java.util.function.Consumer;
import java.util.function.Function;

/** A call that is refused does nothing, and one that only asks neither: all answers are as without it. */
final class Refused {
    private static final int LEAST = Integer.MIN_VALUE;
    private static final int MOST = Integer.MAX_VALUE;

    private final Checks checks;

    Refused(Checks checks) {
        this.checks = checks;
    }

    void all() {
        checks.run("promises 2 and 3: what is refused does nothing", this::tape);
        checks.run("promise 4: what is refused does nothing", this::books);
        checks.run("promises 6, 10, 11, 15: what is refused does nothing", this::sizes);
        checks.run("promise 21: what is refused does nothing", this::misplaced);
        checks.run("promises 5 to 25: who asks changes nothing", this::asked);
        checks.run("promises 5 to 25: who asks of others changes nothing", this::askedOfOthers);
    }

    /** Four BOOKS, one of them OUTSIZE, two SHELVES, THE ROW in disorder, a MARK that was WRONG, three bytes. */
    private static BooksMoved some() {
        BooksMoved x = new BooksMoved();
        Tapes.book(x, "1.2", 0, 30, 20);
        Tapes.book(x, "1.10", 1, 40, 20);
        Tapes.book(x, "7a", 1, 10, 99);
        Tapes.book(x, "1000", 3, 20, 30);
        Tapes.book(x, "9.", 0, 1, 1);
        x.shelf(70);
        x.shelf(25);
        x.rule(1);
        x.sizes(1, 25);
        x.sizes(-2, 45);
        x.way(1, 17);
        x.row();
        x.misplace(2, 0);
        Tapes.put(x, "12x");
        return x;
    }

    /** All that can be asked of such an object, and last what its tape is read as. */
    private static List<Integer> answers(BooksMoved x) {
        List<Integer> all = new ArrayList<>();
        for (int what = 0; what <= 25; what++) {
            all.add(x.about(what));
        }
        all.add(x.wrong());
        all.add(x.quarrels());
        for (int i = 0; i < 5; i++) {
            all.add(x.ordered(i, 0));
            all.add(x.ordered(i, 1));
            all.add(x.laid(i, 0));
            all.add(x.laid(i, 1));
            all.add(x.where(i, 3, 1));
            all.add(x.where(i, 3, 2));
            all.add(x.at(i));
            all.add(x.isOut(i));
            for (int what = 0; what <= 5; what++) {
                all.add(x.crate(i, what));
            }
        }
        for (int what = 0; what <= 2; what++) {
            all.add(x.counts(what));
            all.add(x.meeting(what));
            all.add(x.shelfOf(0, what));
            all.add(x.shelfOf(1, what));
            all.add(x.drawn(1, 3, what));
        }
        all.add(x.takenOut());
        all.add(x.book(0, 1, 1));
        all.add(x.wrong());
        return all;
    }

    private void does(String call, Object want, Function<BooksMoved, Object> it) {
        BooksMoved x = some();
        checks.due(call, want, it.apply(x));
        checks.due("all behind " + call, answers(some()), answers(x));
    }

    private void asks(String call, Consumer<BooksMoved> it) {
        does(call, true, x -> {
            it.accept(x);
            return true;
        });
    }

    private void tape() {
        does("feed", -1, x -> x.feed(0x31000000, 0, 0, 0, 0));
        for (int n : new int[] {-1, 4, 20, 21, LEAST, MOST}) {
            does("end(" + n + ")", -1, x -> x.end(n));
        }
        does("end(3)", 3, x -> x.end(3));
    }

    private void books() {
        for (int other : new int[] {-1, 5, LEAST, MOST}) {
            does("book(" + other + ", 1, 1)", -1, x -> x.book(other, 1, 1));
        }
        for (int other : new int[] {-1, 0, 201, LEAST, MOST}) {
            does("book(0, " + other + ", 1)", -1, x -> x.book(0, other, 1));
        }
        for (int other : new int[] {-1, 0, 101, LEAST, MOST}) {
            does("book(0, 1, " + other + ")", -1, x -> x.book(0, 1, other));
        }
    }

    private void sizes() {
        for (int other : new int[] {-1, 2, LEAST, MOST}) {
            does("rule(" + other + ")", false, x -> x.rule(other));
        }
        for (int other : new int[] {-1, 0, 2001, LEAST, MOST}) {
            does("shelf(" + other + ")", -1, x -> x.shelf(other));
        }
        int[][] others = {
            {0, -1}, {0, 101}, {9, -1}, {9, 101}, {-1, 0}, {-1, 101}, {-2, 0}, {-2, 1001}, {-3, 1}, {10, 1},
            {LEAST, 1}, {MOST, 1}, {1, LEAST}, {1, MOST}, {-1, LEAST}, {-1, MOST}, {-2, LEAST}, {-2, MOST}};
        for (int[] o : others) {
            does("sizes(" + o[0] + ", " + o[1] + ")", false, x -> x.sizes(o[0], o[1]));
        }
        int[][] ways = {{-1, 1}, {5, 1}, {LEAST, 1}, {MOST, 1}, {1, 0}, {1, 101}, {1, -1}, {1, LEAST}, {1, MOST}};
        for (int[] w : ways) {
            does("way(" + w[0] + ", " + w[1] + ")", false, x -> x.way(w[0], w[1]));
        }
    }

    private void misplaced() {
        for (int other : new int[] {-1, 3, 60, LEAST, MOST}) {
            does("misplace(" + other + ", 0)", false, x -> x.misplace(other, 0));
            does("misplace(0, " + other + ")", false, x -> x.misplace(0, other));
        }
        does("misplace(1, 1)", false, x -> x.misplace(1, 1));
    }

    private void asked() {
        asks("wrong()", x -> x.wrong());
        asks("compare", x -> x.compare(0, 1, 0));
        asks("ordered", x -> x.ordered(0, 0));
        asks("quarrels()", x -> x.quarrels());
        asks("takenOut()", x -> x.takenOut());
        for (int what = 0; what <= 25; what++) {
            int it = what;
            asks("laid", x -> x.laid(1, it));
            asks("shelfOf", x -> x.shelfOf(0, it));
            asks("counts", x -> x.counts(it));
            asks("crate", x -> x.crate(1, it));
            asks("meeting", x -> x.meeting(it));
            asks("where", x -> x.where(1, 5, it));
            asks("drawn", x -> x.drawn(2, 77, it));
            asks("about", x -> x.about(it));
            asks("at", x -> x.at(it));
            asks("isOut", x -> x.isOut(it));
        }
    }

    private void askedOfOthers() {
        for (int other : new int[] {-2, -1, 60, 100001, LEAST, MOST}) {
            does("compare", -2, x -> x.compare(other, 0, 0));
            does("compare by others", -2, x -> x.compare(0, 0, other));
            does("ordered", -1, x -> x.ordered(other, 0));
            does("ordered by others", -1, x -> x.ordered(0, other));
            does("laid", -1, x -> x.laid(other, 0));
            does("shelfOf", -1, x -> x.shelfOf(other, 0));
            does("counts", -1, x -> x.counts(other));
            does("crate", -1, x -> x.crate(other, 0));
            does("meeting", -1, x -> x.meeting(other));
            does("where", -1, x -> x.where(other, 0, 0));
            does("at", -1, x -> x.at(other));
            does("isOut", -1, x -> x.isOut(other));
            does("drawn", -1, x -> x.drawn(other, 1, 0));
            does("about", -1, x -> x.about(other));
        }
        does("where before minute 0", -1, x -> x.where(0, -1, 0));
        does("where behind minute 100000", -1, x -> x.where(0, 100001, 0));
    }
}
