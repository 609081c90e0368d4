/** Promises 10 to 18: SHELVES, CRATES, TEAMS and readers. */
final class PromisesOfMoving {
    private final Checks checks;

    PromisesOfMoving(Checks checks) {
        this.checks = checks;
    }

    void all() {
        checks.run("promise 10: shelf", this::shelf);
        checks.run("promise 11: sizes", this::sizes);
        checks.run("promise 11: sizes of others", this::sizesOfOthers);
        checks.run("promise 12: laid", this::laid);
        checks.run("promise 12: laid with growth", this::laidWithGrowth);
        checks.run("promise 13: shelfOf", this::shelfOf);
        checks.run("promise 14: counts", this::counts);
        checks.run("promise 15: way", this::way);
        checks.run("promise 16: crate", this::crate);
        checks.run("promise 16: what a crate holds", this::crateHolds);
        checks.run("promise 17: meeting", this::meeting);
        checks.run("promise 18: where", this::where);
        checks.run("promise 18: who asks in time", this::whereInTime);
        checks.run("promise 18: where of others", this::whereOfOthers);
    }

    private void due(String call, Object want, Object got) {
        checks.due(call, want, got);
    }

    private void shelf() {
        BooksMoved x = new BooksMoved();
        due("shelf(0)", -1, x.shelf(0));
        due("shelf(-1)", -1, x.shelf(-1));
        due("shelf(2001)", -1, x.shelf(2001));
        due("shelf(most)", -1, x.shelf(Integer.MAX_VALUE));
        due("about(1)", 0, x.about(1));
        for (int i = 0; i < 16; i++) {
            due("shelf " + i, i, x.shelf(i % 2 == 0 ? 1 : 2000));
        }
        due("shelf 16", -1, x.shelf(5));
        due("about(1)", 16, x.about(1));
        due("shelfOf(15, 1)", 200000, x.shelfOf(15, 1));
        due("shelfOf(14, 1)", 100, x.shelfOf(14, 1));
    }

    private void sizes() {
        BooksMoved x = new BooksMoved();
        Tapes.book(x, "3999", 0, 10, 100);
        Tapes.book(x, "4000", 0, 10, 50);
        x.shelf(1000);
        due("sizes(-1, 99)", true, x.sizes(-1, 99));
        due("counts(0) above 99", 1, x.counts(0));
        due("sizes(-1, 100)", true, x.sizes(-1, 100));
        due("counts(0) above 100", 0, x.counts(0));
        due("sizes(-1, 1)", true, x.sizes(-1, 1));
        due("counts(0) above 1", 2, x.counts(0));
        x.sizes(-1, 50);
        due("counts(0) above 50", 1, x.counts(0));
        due("sizes(4, 100)", true, x.sizes(4, 100));
        due("shelfOf(0, 1)", 98000, x.shelfOf(0, 1));
        due("sizes(3, 1)", true, x.sizes(3, 1));
        x.sizes(-1, 100);
        due("shelfOf(0, 1) of both", 98000 - 1010, x.shelfOf(0, 1));
        due("sizes(4, 0)", true, x.sizes(4, 0));
        due("shelfOf(0, 1) with none", 99000 - 1010, x.shelfOf(0, 1));
        due("sizes(-2, 19)", true, x.sizes(-2, 19));
        due("counts(2)", 2, x.counts(2));
        due("sizes(-2, 20)", true, x.sizes(-2, 20));
        due("counts(2)", 1, x.counts(2));
        due("sizes(-2, 1)", true, x.sizes(-2, 1));
        due("sizes(-2, 1000)", true, x.sizes(-2, 1000));
        due("sizes(0, 0)", true, x.sizes(0, 0));
        due("sizes(9, 100)", true, x.sizes(9, 100));
    }

    private void sizesOfOthers() {
        BooksMoved x = new BooksMoved();
        int[][] others = {
            {-1, 0}, {-1, 101}, {-1, -1}, {-2, 0}, {-2, 1001}, {-2, -5}, {-3, 5}, {10, 5}, {0, -1}, {0, 101}, {9, 101},
            {Integer.MIN_VALUE, 5}, {Integer.MAX_VALUE, 5}, {4, Integer.MIN_VALUE}, {-1, Integer.MAX_VALUE}};
        for (int[] o : others) {
            due("sizes(" + o[0] + ", " + o[1] + ")", false, x.sizes(o[0], o[1]));
        }
        due("about(3)", 30, x.about(3));
        due("about(4)", 100, x.about(4));
        for (int t = 0; t < 10; t++) {
            due("about(1" + t + ")", 0, x.about(10 + t));
        }
    }

    private void laidIs(BooksMoved x, int book, int shelf, int place) {
        due("laid(" + book + ", 0)", shelf, x.laid(book, 0));
        due("laid(" + book + ", 1)", place, x.laid(book, 1));
    }

    private void laid() {
        BooksMoved x = new BooksMoved();
        Tapes.book(x, "5", 0, 20, 30);
        Tapes.book(x, "1", 0, 30, 30);
        Tapes.book(x, "2", 0, 10, 31);
        Tapes.book(x, "3", 0, 40, 1);
        Tapes.book(x, "4", 0, 60, 1);
        Tapes.book(x, "6", 0, 1, 1);
        laidIs(x, 1, -1, -1);
        x.shelf(70);
        laidIs(x, 1, 0, 0);
        laidIs(x, 3, 0, 1);
        laidIs(x, 2, -1, -1);
        laidIs(x, 4, -1, -1);
        // Behind one that is not laid none is, though there is room on the shelf for it.
        laidIs(x, 5, -1, -1);
        x.shelf(59);
        laidIs(x, 4, -1, -1);
        x.shelf(60);
        // The shelf of 59 is too short, the next one full to its end.
        laidIs(x, 4, 2, 0);
        laidIs(x, 0, -1, -1);
        x.shelf(25);
        laidIs(x, 0, 3, 0);
        laidIs(x, 5, 3, 1);
        due("shelfOf(1, 0)", 0, x.shelfOf(1, 0));
        due("laid(0, 2)", -1, x.laid(0, 2));
        due("laid(0, -1)", -1, x.laid(0, -1));
        due("laid(6, 0)", -1, x.laid(6, 0));
        due("laid(-1, 0)", -1, x.laid(-1, 0));
        due("laid(most, 1)", -1, x.laid(Integer.MAX_VALUE, 1));
    }

    private void laidWithGrowth() {
        BooksMoved x = new BooksMoved();
        Tapes.book(x, "999", 0, 50, 1);
        Tapes.book(x, "1000", 0, 50, 1);
        Tapes.book(x, "1001", 0, 1, 1);
        x.shelf(101);
        x.shelf(200);
        laidIs(x, 2, 0, 2);
        x.sizes(1, 1);
        // 5000 and 5050 are on it, and 101 would make it 10151, above 10100.
        laidIs(x, 1, 0, 1);
        laidIs(x, 2, 1, 0);
        x.sizes(1, 2);
        laidIs(x, 1, 0, 1);
        x.sizes(1, 3);
        laidIs(x, 1, 1, 0);
        laidIs(x, 2, 1, 1);
        x.sizes(0, 100);
        x.sizes(1, 0);
        laidIs(x, 0, 0, 0);
        laidIs(x, 1, 1, 0);
    }

    private void shelfOf() {
        BooksMoved x = new BooksMoved();
        x.shelf(25);
        x.shelf(20);
        due("shelfOf(0, 0)", 0, x.shelfOf(0, 0));
        due("shelfOf(0, 1)", 2500, x.shelfOf(0, 1));
        Tapes.book(x, "1", 0, 10, 1);
        Tapes.book(x, "2", 0, 10, 1);
        Tapes.book(x, "3", 0, 10, 1);
        x.sizes(0, 20);
        due("shelfOf(0, 0) of two", 2, x.shelfOf(0, 0));
        due("shelfOf(0, 1) of two", 100, x.shelfOf(0, 1));
        due("shelfOf(1, 0)", 1, x.shelfOf(1, 0));
        due("shelfOf(1, 1)", 800, x.shelfOf(1, 1));
        due("shelfOf(2, 0)", -1, x.shelfOf(2, 0));
        due("shelfOf(-1, 0)", -1, x.shelfOf(-1, 0));
        due("shelfOf(0, 2)", -1, x.shelfOf(0, 2));
        due("shelfOf(0, -1)", -1, x.shelfOf(0, -1));
        due("shelfOf(most, 0)", -1, x.shelfOf(Integer.MAX_VALUE, 0));
    }

    private void counts() {
        BooksMoved x = new BooksMoved();
        Tapes.book(x, "1", 0, 10, 31);
        Tapes.book(x, "2", 0, 10, 30);
        Tapes.book(x, "3", 1, 10, 31);
        Tapes.book(x, "4", 0, 10, 1);
        due("counts(0)", 2, x.counts(0));
        due("counts(1)", 2, x.counts(1));
        due("counts(2)", 3, x.counts(2));
        x.shelf(10);
        due("counts(1) with a shelf", 1, x.counts(1));
        x.shelf(10);
        due("counts(1) with two", 0, x.counts(1));
        x.sizes(-1, 31);
        // The outsize ones come before and between, and the last two find no shelf.
        due("counts(0) of none", 0, x.counts(0));
        due("counts(1) of all", 2, x.counts(1));
        due("counts(3)", -1, x.counts(3));
        due("counts(-1)", -1, x.counts(-1));
    }

    private void way() {
        BooksMoved x = new BooksMoved();
        Tapes.book(x, "1", 4, 10, 1);
        due("meeting(1)", 10, x.meeting(1));
        due("way(4, 1)", true, x.way(4, 1));
        due("meeting(1) of one minute", 1, x.meeting(1));
        due("way(4, 100)", true, x.way(4, 100));
        due("way(0, 7)", true, x.way(0, 7));
        due("way(5, 7)", false, x.way(5, 7));
        due("way(-1, 7)", false, x.way(-1, 7));
        due("way(4, 0)", false, x.way(4, 0));
        due("way(4, 101)", false, x.way(4, 101));
        due("way(4, least)", false, x.way(4, Integer.MIN_VALUE));
        due("meeting(1) of a hundred", 100, x.meeting(1));
        due("about(20)", 7, x.about(20));
        due("about(24)", 100, x.about(24));
    }

    private void crateIs(BooksMoved x, int c, int... due) {
        for (int what = 0; what < due.length; what++) {
            due("crate(" + c + ", " + what + ")", due[what], x.crate(c, what));
        }
    }

    /** Crates of the houses 0, 1, 2, 0 with 2, 1, 1, 1 books and ways of 5, 20, 7, 5 minutes. */
    private BooksMoved fourCrates() {
        BooksMoved x = new BooksMoved();
        Tapes.book(x, "40", 0, 1, 100);
        Tapes.book(x, "10", 0, 1, 1);
        Tapes.book(x, "11", 0, 1, 1);
        Tapes.book(x, "20", 1, 1, 100);
        Tapes.book(x, "30", 2, 1, 1);
        x.way(0, 5);
        x.way(1, 20);
        x.way(2, 7);
        return x;
    }

    private void crate() {
        BooksMoved x = fourCrates();
        crateIs(x, 0, 1, 2, 0, 0, 5, 0);
        crateIs(x, 1, 3, 1, 1, 5, 25, 0);
        crateIs(x, 2, 4, 1, 2, 5, 12, 1);
        crateIs(x, 3, 0, 1, 0, 0, 5, 1);
        x.way(1, 6);
        crateIs(x, 1, 3, 1, 1, 5, 11, 0);
        due("crate(4, 0)", -1, x.crate(4, 0));
        due("crate(-1, 0)", -1, x.crate(-1, 0));
        due("crate(0, 6)", -1, x.crate(0, 6));
        due("crate(0, -1)", -1, x.crate(0, -1));
        due("crate(most, 3)", -1, x.crate(Integer.MAX_VALUE, 3));
    }

    private void crateHolds() {
        BooksMoved x = new BooksMoved();
        Tapes.book(x, "1", 0, 101, 1);
        Tapes.book(x, "2", 0, 60, 1);
        Tapes.book(x, "3", 0, 40, 1);
        Tapes.book(x, "4", 0, 1, 1);
        Tapes.book(x, "5", 3, 1, 1);
        Tapes.book(x, "6", 0, 1, 1);
        // One above what a crate holds has it by itself.
        crateIs(x, 0, 0, 1, 0);
        crateIs(x, 1, 1, 2, 0);
        crateIs(x, 2, 3, 1, 0);
        crateIs(x, 3, 4, 1, 3);
        crateIs(x, 4, 5, 1, 0);
        due("counts(2)", 5, x.counts(2));
        x.sizes(-2, 99);
        due("counts(2) of 99", 5, x.counts(2));
        crateIs(x, 2, 2, 2, 0);
        x.sizes(-2, 1);
        due("counts(2) of 1", 6, x.counts(2));
        x.sizes(-2, 1000);
        due("counts(2) of 1000", 3, x.counts(2));
        crateIs(x, 0, 0, 4, 0);
    }

    private void meeting() {
        BooksMoved x = fourCrates();
        // The ends, as the first team carries 0, 1, 2 ..: 0 and 37, 5 and 32, 25 and 12, 32 and 5, 37 and 0.
        due("meeting(0)", 2, x.meeting(0));
        due("meeting(1)", 25, x.meeting(1));
        x.way(2, 40);
        // 0 and 70, 5 and 65, 25 and 45, 65 and 5, 70 and 0.
        due("meeting(0) of a long way behind", 2, x.meeting(0));
        due("meeting(1) of a long way behind", 45, x.meeting(1));
        x.way(0, 100);
        // 0 and 260, 100 and 160, 120 and 140, 160 and 100, 260 and 0.
        due("meeting(1) of long ways at both ends", 140, x.meeting(1));
        due("meeting(2)", -1, x.meeting(2));
        due("meeting(-1)", -1, x.meeting(-1));
        BooksMoved one = Tapes.withMarks("1");
        // Whoever carries the one crate, it ends at 10: the fewest for the first team are none.
        due("meeting(0) of one", 0, one.meeting(0));
        due("meeting(1) of one", 10, one.meeting(1));
        due("crate(0, 5) of one", 1, one.crate(0, 5));
        Tapes.book(one, "2", 1, 1, 1);
        Tapes.book(one, "3", 0, 1, 1);
        due("meeting(0) of three", 1, one.meeting(0));
        due("meeting(1) of three", 20, one.meeting(1));
    }

    private void where() {
        BooksMoved x = fourCrates();
        x.way(1, 40);
        // The first team: crate 0 in 0 .. 5, crate 1 in 5 .. 45; the other: crate 3 in 0 .. 5, crate 2 in 5 .. 12.
        due("meeting(0)", 2, x.meeting(0));
        due("where(3, 4, 0)", 0, x.where(3, 4, 0));
        due("where(3, 5, 0)", 1, x.where(3, 5, 0));
        due("where(3, 44, 0)", 1, x.where(3, 44, 0));
        due("where(3, 45, 0)", 2, x.where(3, 45, 0));
        due("where(3, 100000, 0)", 2, x.where(3, 100000, 0));
        due("where(1, 0, 0)", 1, x.where(1, 0, 0));
        due("where(1, 0, 2)", 0, x.where(1, 0, 2));
        due("where(2, 0, 2)", 0, x.where(2, 0, 2));
        due("where(3, 0, 2)", 1, x.where(3, 0, 2));
        due("where(4, 0, 2)", 2, x.where(4, 0, 2));
        due("where(0, 100000, 2)", 3, x.where(0, 100000, 2));
        due("where(4, 4, 0)", 0, x.where(4, 4, 0));
        due("where(4, 12, 0)", 2, x.where(4, 12, 0));
    }

    private void whereInTime() {
        BooksMoved x = fourCrates();
        x.way(2, 20);
        // Crate 2 is under way in 5 .. 25, behind crate 3.
        due("where(4, 0, 1)", 25, x.where(4, 0, 1));
        x.way(0, 20);
        due("crate(2, 3)", 20, x.crate(2, 3));
        due("where(4, 0, 1) in time", 20, x.where(4, 0, 1));
        due("where(4, 1, 1) too late", 40, x.where(4, 1, 1));
        due("where(4, 20, 1) under way", 40, x.where(4, 20, 1));
        due("where(4, 39, 1) under way", 40, x.where(4, 39, 1));
        due("where(4, 40, 1) there", 40, x.where(4, 40, 1));
        due("where(4, 41, 1) there", 41, x.where(4, 41, 1));
        due("where(4, 100000, 1) there", 100000, x.where(4, 100000, 1));
        x.way(2, 3);
        due("where(4, 17, 1) in time", 20, x.where(4, 17, 1));
        due("where(4, 2, 1) in time", 5, x.where(4, 2, 1));
        due("where(4, 18, 1) too late", 23, x.where(4, 18, 1));
        due("where(0, 0, 1) under way at once", 20, x.where(0, 0, 1));
    }

    private void whereOfOthers() {
        BooksMoved x = fourCrates();
        int[][] others = {
            {-1, 0, 0}, {5, 0, 0}, {0, -1, 0}, {0, 100001, 0}, {0, 0, 3}, {0, 0, -1}, {0, -1, 2}, {0, 100001, 2},
            {5, 0, 2}, {Integer.MAX_VALUE, 0, 1}, {0, Integer.MAX_VALUE, 1}, {0, Integer.MIN_VALUE, 1}};
        for (int[] o : others) {
            due("where(" + o[0] + ", " + o[1] + ", " + o[2] + ")", -1, x.where(o[0], o[1], o[2]));
        }
    }
}
