/** Promises 10 to 18: each sentence of the document that names a boundary case has a test of its own here. */
final class EdgesOfMoving {
    private final Checks checks;

    EdgesOfMoving(Checks checks) {
        this.checks = checks;
    }

    void all() {
        checks.run("promise 10, edge: LONG 1 .. 2000", this::longs);
        checks.run("promise 10, edge: there are 16", this::thereAreSixteen);
        checks.run("promise 11, edge: GROWTH 0 .. 100 hundredths, of 0 .. 9", this::growths);
        checks.run("promise 11, edge: LIMIT 1 .. 100", this::limits);
        checks.run("promise 11, edge: CRATES hold 1 .. 1000", this::holds);
        checks.run("promise 11, edge: false for other thousands", this::otherThousands);
        checks.run("promise 11, edge: the NUMBER's thousands at their ends", this::thousandsOfNumbers);
        checks.run("promise 12, edge: a BOOK as TALL as LIMIT is not OUTSIZE", this::asTallAsLimit);
        checks.run("promise 12, edge: not above 100 times LONG", this::notAboveLong);
        checks.run("promise 12, edge: the next SHELF, and so on", this::nextShelfAndSoOn);
        checks.run("promise 12, edge: no SHELF before the one at hand", this::noShelfBefore);
        checks.run("promise 12, edge: NOT LAID, and all behind it", this::allBehindIt);
        checks.run("promise 12, edge: sixteen full SHELVES", this::sixteenFull);
        checks.run("promise 12, edge: sixty BOOKS on one SHELF", this::sixtyOnOne);
        checks.run("promise 12, edge: NONE for others", this::laidOthers);
        checks.run("promise 13, edge: an empty SHELF and a full one", this::freeAtItsEnds);
        checks.run("promise 13, edge: NONE for others", this::shelfOfOthers);
        checks.run("promise 14, edge: none, and all", this::countsAtTheirEnds);
        checks.run("promise 14, edge: NONE for others", this::countsOthers);
        checks.run("promise 15, edge: 1 .. 100 minutes, HOUSES 0 .. 4", this::ways);
        checks.run("promise 16, edge: it holds that", this::holdsThat);
        checks.run("promise 16, edge: a BOOK above what a CRATE holds", this::aboveHold);
        checks.run("promise 16, edge: all in it of the same HOUSE", this::sameHouse);
        checks.run("promise 16, edge: OUTSIZE ones too", this::outsizeToo);
        checks.run("promise 16, edge: sixty CRATES", this::sixtyCrates);
        checks.run("promise 16, edge: NONE for others", this::crateOthers);
        checks.run("promise 17, edge: no CRATE, one, two", this::fewCrates);
        checks.run("promise 17, edge: of like ones the fewest", this::theFewest);
        checks.run("promise 17, edge: many CRATES become one", this::manyBecomeOne);
        checks.run("promise 17, edge: NONE for others", this::meetingOthers);
        checks.run("promise 18, edge: before its CRATE begins, till it has ended", this::beginsAndEnds);
        checks.run("promise 18, edge: if that isn't behind the minute at which it begins", this::notBehindBegin);
        checks.run("promise 18, edge: minutes 0 .. 100000", this::minutes);
        checks.run("promise 18, edge: NONE for others", this::whereOthers);
        checks.run("promises 12 to 18, edge: an answer is never an older one", this::neverAnOlderOne);
    }

    private void due(String call, Object want, Object got) {
        checks.due(call, want, got);
    }

    private void laidIs(BooksMoved x, int book, int shelf, int place) {
        due("laid(" + book + ", 0)", shelf, x.laid(book, 0));
        due("laid(" + book + ", 1)", place, x.laid(book, 1));
    }

    private void longs() {
        BooksMoved x = new BooksMoved();
        int[] others = {0, -1, 2001, Integer.MIN_VALUE, Integer.MAX_VALUE};
        for (int other : others) {
            due("shelf(" + other + ")", -1, x.shelf(other));
            due("about(1)", 0, x.about(1));
            due("shelfOf(0, 0)", -1, x.shelfOf(0, 0));
        }
        due("shelf(1)", 0, x.shelf(1));
        due("shelf(2000)", 1, x.shelf(2000));
        due("shelfOf(0, 1)", 100, x.shelfOf(0, 1));
        due("shelfOf(1, 1)", 200000, x.shelfOf(1, 1));
    }

    private void thereAreSixteen() {
        BooksMoved x = new BooksMoved();
        for (int i = 0; i < 16; i++) {
            due("shelf " + i, i, x.shelf(i + 1));
        }
        due("one more", -1, x.shelf(1));
        due("one more of others", -1, x.shelf(0));
        due("about(1)", 16, x.about(1));
        for (int i = 0; i < 16; i++) {
            due("shelfOf(" + i + ", 1)", 100 * (i + 1), x.shelfOf(i, 1));
        }
        due("shelfOf(16, 1)", -1, x.shelfOf(16, 1));
    }

    private void growths() {
        BooksMoved x = new BooksMoved();
        int[] others = {-1, 101, Integer.MIN_VALUE, Integer.MAX_VALUE};
        for (int t = 0; t <= 9; t++) {
            due("sizes(" + t + ", 100)", true, x.sizes(t, 100));
            for (int other : others) {
                due("sizes(" + t + ", " + other + ")", false, x.sizes(t, other));
            }
            due("about(1" + t + ")", 100, x.about(10 + t));
            due("sizes(" + t + ", 0)", true, x.sizes(t, 0));
            due("about(1" + t + ") then", 0, x.about(10 + t));
        }
    }

    private void limits() {
        BooksMoved x = new BooksMoved();
        due("about(3) at first", 30, x.about(3));
        int[] others = {0, -1, 101, Integer.MIN_VALUE, Integer.MAX_VALUE};
        for (int limit : new int[] {1, 100}) {
            due("sizes(-1, " + limit + ")", true, x.sizes(-1, limit));
            for (int other : others) {
                due("sizes(-1, " + other + ")", false, x.sizes(-1, other));
                due("about(3)", limit, x.about(3));
            }
        }
    }

    private void holds() {
        BooksMoved x = new BooksMoved();
        due("about(4) at first", 100, x.about(4));
        int[] others = {0, -1, 1001, Integer.MIN_VALUE, Integer.MAX_VALUE};
        for (int hold : new int[] {1, 101, 1000}) {
            due("sizes(-2, " + hold + ")", true, x.sizes(-2, hold));
            for (int other : others) {
                due("sizes(-2, " + other + ")", false, x.sizes(-2, other));
                due("about(4)", hold, x.about(4));
            }
        }
    }

    private void otherThousands() {
        BooksMoved x = new BooksMoved();
        int[] others = {-3, 10, 11, -4, Integer.MIN_VALUE, Integer.MAX_VALUE};
        for (int other : others) {
            for (int v : new int[] {0, 1, 50, 100}) {
                due("sizes(" + other + ", " + v + ")", false, x.sizes(other, v));
            }
        }
        for (int what = 0; what <= 25; what++) {
            due("about(" + what + ")", new BooksMoved().about(what), x.about(what));
        }
    }

    private void thousandsOfNumbers() {
        String[] marks = {"0", "999", "0999", "1000", "1999", "2000", "8999", "9000", "9999"};
        int[] thousands = {0, 0, 0, 1, 1, 2, 8, 9, 9};
        for (int i = 0; i < marks.length; i++) {
            BooksMoved x = new BooksMoved();
            Tapes.book(x, marks[i], 0, 1, 1);
            x.shelf(10);
            for (int t = 0; t <= 9; t++) {
                x.sizes(t, 10 + t);
            }
            due("shelfOf(0, 1) of " + marks[i], 1000 - 110 - thousands[i], x.shelfOf(0, 1));
        }
    }

    private void asTallAsLimit() {
        BooksMoved x = new BooksMoved();
        Tapes.book(x, "1", 0, 1, 30);
        Tapes.book(x, "2", 0, 1, 31);
        x.shelf(10);
        laidIs(x, 0, 0, 0);
        laidIs(x, 1, -1, -1);
        due("counts(0)", 1, x.counts(0));
        due("counts(1)", 0, x.counts(1));
        x.sizes(-1, 31);
        laidIs(x, 1, 0, 1);
        x.sizes(-1, 29);
        laidIs(x, 0, -1, -1);
        due("counts(0) above 29", 2, x.counts(0));
    }

    private void notAboveLong() {
        BooksMoved x = new BooksMoved();
        Tapes.book(x, "1", 0, 40, 1);
        Tapes.book(x, "2", 0, 60, 1);
        x.shelf(100);
        laidIs(x, 1, 0, 1);
        due("shelfOf(0, 1)", 0, x.shelfOf(0, 1));
        // 4040 and 6060 are above 10000.
        x.sizes(0, 1);
        laidIs(x, 0, 0, 0);
        laidIs(x, 1, -1, -1);
        BooksMoved y = new BooksMoved();
        Tapes.book(y, "1", 0, 1, 1);
        y.shelf(1);
        laidIs(y, 0, 0, 0);
        y.sizes(0, 1);
        // One hundredth too much.
        laidIs(y, 0, -1, -1);
        due("counts(1)", 1, y.counts(1));
        y.sizes(0, 100);
        y.shelf(2);
        laidIs(y, 0, 1, 0);
        due("shelfOf(1, 1)", 0, y.shelfOf(1, 1));
    }

    private void nextShelfAndSoOn() {
        BooksMoved x = new BooksMoved();
        Tapes.book(x, "1", 0, 5, 1);
        Tapes.book(x, "2", 0, 200, 1);
        Tapes.book(x, "3", 0, 1, 1);
        x.shelf(4);
        x.shelf(6);
        x.shelf(199);
        x.shelf(1);
        x.shelf(200);
        x.shelf(1);
        laidIs(x, 0, 1, 0);
        laidIs(x, 1, 4, 0);
        laidIs(x, 2, 5, 0);
        int[] books = {0, 1, 0, 0, 1, 1};
        for (int shelf = 0; shelf < 6; shelf++) {
            due("shelfOf(" + shelf + ", 0)", books[shelf], x.shelfOf(shelf, 0));
        }
    }

    private void noShelfBefore() {
        BooksMoved x = new BooksMoved();
        Tapes.book(x, "1", 0, 2, 1);
        Tapes.book(x, "2", 0, 10, 1);
        Tapes.book(x, "3", 0, 1, 1);
        x.shelf(9);
        x.shelf(10);
        laidIs(x, 0, 0, 0);
        laidIs(x, 1, 1, 0);
        // There is room on the first one, but it is not at hand any more.
        laidIs(x, 2, -1, -1);
        due("shelfOf(0, 1)", 700, x.shelfOf(0, 1));
        x.shelf(1);
        laidIs(x, 2, 2, 0);
    }

    private void allBehindIt() {
        BooksMoved x = new BooksMoved();
        Tapes.book(x, "1", 0, 1, 1);
        Tapes.book(x, "2", 0, 50, 1);
        Tapes.book(x, "3", 0, 1, 1);
        Tapes.book(x, "4", 0, 1, 100);
        Tapes.book(x, "5", 0, 1, 1);
        x.shelf(49);
        laidIs(x, 0, 0, 0);
        for (int book = 1; book < 5; book++) {
            laidIs(x, book, -1, -1);
        }
        due("counts(0)", 1, x.counts(0));
        due("counts(1)", 3, x.counts(1));
        due("shelfOf(0, 0)", 1, x.shelfOf(0, 0));
        // Another one that is long enough is at hand for all of them.
        x.shelf(52);
        laidIs(x, 1, 1, 0);
        laidIs(x, 2, 1, 1);
        laidIs(x, 3, -1, -1);
        laidIs(x, 4, 1, 2);
        due("counts(1) then", 0, x.counts(1));
    }

    private void sixteenFull() {
        BooksMoved x = new BooksMoved();
        for (int i = 0; i < 18; i++) {
            Tapes.book(x, Integer.toString(i), 0, 7, 1);
        }
        for (int i = 0; i < 16; i++) {
            x.shelf(7);
        }
        for (int i = 0; i < 16; i++) {
            laidIs(x, i, i, 0);
            due("shelfOf(" + i + ", 1)", 0, x.shelfOf(i, 1));
        }
        laidIs(x, 16, -1, -1);
        laidIs(x, 17, -1, -1);
        due("counts(1)", 2, x.counts(1));
        due("row()", 16, x.row());
        x.sizes(0, 1);
        due("counts(1) with growth", 18, x.counts(1));
        due("row() with growth", 0, x.row());
    }

    private void sixtyOnOne() {
        BooksMoved x = new BooksMoved();
        x.shelf(60);
        for (int i = 0; i < 60; i++) {
            Tapes.book(x, "5", 0, 1, 1);
        }
        laidIs(x, 0, 0, 0);
        laidIs(x, 59, 0, 59);
        due("shelfOf(0, 0)", 60, x.shelfOf(0, 0));
        due("shelfOf(0, 1)", 0, x.shelfOf(0, 1));
        due("counts(1)", 0, x.counts(1));
    }

    private void laidOthers() {
        BooksMoved x = new BooksMoved();
        x.shelf(10);
        due("laid(0, 0) of no BOOKS", -1, x.laid(0, 0));
        Tapes.book(x, "1", 0, 1, 1);
        laidIs(x, 0, 0, 0);
        int[] others = {-1, 2, 60, Integer.MIN_VALUE, Integer.MAX_VALUE};
        for (int other : others) {
            laidIs(x, other, -1, -1);
            due("laid(0, " + other + ")", -1, x.laid(0, other));
        }
        laidIs(x, 1, -1, -1);
    }

    private void freeAtItsEnds() {
        BooksMoved x = new BooksMoved();
        x.shelf(2000);
        due("shelfOf(0, 0) of an empty one", 0, x.shelfOf(0, 0));
        due("shelfOf(0, 1) of an empty one", 200000, x.shelfOf(0, 1));
        for (int i = 0; i < 10; i++) {
            Tapes.book(x, "9999", 0, 200, 1);
        }
        due("shelfOf(0, 0) of a full one", 10, x.shelfOf(0, 0));
        due("shelfOf(0, 1) of a full one", 0, x.shelfOf(0, 1));
        x.sizes(9, 100);
        due("shelfOf(0, 0) of the greatest growth", 5, x.shelfOf(0, 0));
        due("shelfOf(0, 1) of the greatest growth", 0, x.shelfOf(0, 1));
        x.sizes(9, 99);
        due("shelfOf(0, 1) of 99", 200000 - 5 * 200 * 199, x.shelfOf(0, 1));
        x.sizes(-1, 1);
        due("shelfOf(0, 0) of TALL 1", 5, x.shelfOf(0, 0));
    }

    private void shelfOfOthers() {
        BooksMoved x = new BooksMoved();
        due("shelfOf(0, 0) of no SHELVES", -1, x.shelfOf(0, 0));
        due("shelfOf(0, 1) of no SHELVES", -1, x.shelfOf(0, 1));
        x.shelf(10);
        int[] others = {-1, 2, 16, Integer.MIN_VALUE, Integer.MAX_VALUE};
        for (int other : others) {
            due("shelfOf(" + other + ", 0)", -1, x.shelfOf(other, 0));
            due("shelfOf(" + other + ", 1)", -1, x.shelfOf(other, 1));
            due("shelfOf(0, " + other + ")", -1, x.shelfOf(0, other));
        }
        due("shelfOf(1, 0)", -1, x.shelfOf(1, 0));
    }

    private void countsAtTheirEnds() {
        BooksMoved x = new BooksMoved();
        for (int what = 0; what <= 2; what++) {
            due("counts(" + what + ") of nothing", 0, x.counts(what));
        }
        for (int i = 0; i < 60; i++) {
            Tapes.book(x, "1", i % 2, 1, 50);
        }
        due("counts(0) of all", 60, x.counts(0));
        due("counts(1), all are OUTSIZE", 0, x.counts(1));
        due("counts(2) of all", 60, x.counts(2));
        x.sizes(-1, 50);
        due("counts(0), none is OUTSIZE", 0, x.counts(0));
        due("counts(1) without SHELVES", 60, x.counts(1));
        x.shelf(59);
        due("counts(1) of all but one", 1, x.counts(1));
        x.shelf(1);
        due("counts(1) of all", 0, x.counts(1));
    }

    private void countsOthers() {
        BooksMoved x = Tapes.withMarks("1", "2");
        int[] others = {-1, 3, 4, Integer.MIN_VALUE, Integer.MAX_VALUE};
        for (int other : others) {
            due("counts(" + other + ")", -1, x.counts(other));
        }
        due("counts(2)", 1, x.counts(2));
    }

    private void ways() {
        BooksMoved x = new BooksMoved();
        int[] others = {0, -1, 101, Integer.MIN_VALUE, Integer.MAX_VALUE};
        int[] otherHouses = {-1, 5, 6, Integer.MIN_VALUE, Integer.MAX_VALUE};
        for (int house = 0; house <= 4; house++) {
            due("about(2" + house + ") at first", 10, x.about(20 + house));
            due("way(" + house + ", 100)", true, x.way(house, 100));
            due("about(2" + house + ")", 100, x.about(20 + house));
            due("way(" + house + ", 1)", true, x.way(house, 1));
            for (int other : others) {
                due("way(" + house + ", " + other + ")", false, x.way(house, other));
            }
            due("about(2" + house + ") then", 1, x.about(20 + house));
        }
        for (int house : otherHouses) {
            due("way(" + house + ", 50)", false, x.way(house, 50));
        }
        for (int house = 0; house <= 4; house++) {
            due("about(2" + house + ") at last", 1, x.about(20 + house));
        }
    }

    private void holdsThat() {
        BooksMoved x = new BooksMoved();
        Tapes.book(x, "1", 0, 99, 1);
        Tapes.book(x, "2", 0, 1, 1);
        Tapes.book(x, "3", 0, 1, 1);
        due("counts(2) of 100 and 1", 2, x.counts(2));
        due("crate(0, 1)", 2, x.crate(0, 1));
        due("crate(1, 0)", 2, x.crate(1, 0));
        x.sizes(-2, 101);
        due("counts(2) of 101", 1, x.counts(2));
        x.sizes(-2, 99);
        due("counts(2) of 99 and 2", 2, x.counts(2));
        due("crate(1, 0)", 1, x.crate(1, 0));
        BooksMoved y = new BooksMoved();
        y.sizes(-2, 1000);
        for (int i = 0; i < 6; i++) {
            Tapes.book(y, "1", 0, 200, 1);
        }
        due("crate(0, 1) of 1000", 5, y.crate(0, 1));
        due("crate(1, 0) of 1000", 5, y.crate(1, 0));
    }

    private void aboveHold() {
        BooksMoved x = new BooksMoved();
        x.sizes(-2, 1);
        Tapes.book(x, "1", 0, 200, 1);
        Tapes.book(x, "2", 0, 1, 1);
        Tapes.book(x, "3", 0, 200, 1);
        Tapes.book(x, "4", 0, 200, 1);
        due("counts(2)", 4, x.counts(2));
        for (int c = 0; c < 4; c++) {
            due("crate(" + c + ", 0)", c, x.crate(c, 0));
            due("crate(" + c + ", 1)", 1, x.crate(c, 1));
        }
        x.sizes(-2, 200);
        due("counts(2) of 200", 4, x.counts(2));
        x.sizes(-2, 201);
        due("counts(2) of 201", 3, x.counts(2));
        due("crate(0, 1) of 201", 2, x.crate(0, 1));
        due("crate(1, 0) of 201", 2, x.crate(1, 0));
    }

    private void sameHouse() {
        BooksMoved x = new BooksMoved();
        int[] houses = {4, 4, 0, 4, 0, 0, 3};
        for (int i = 0; i < houses.length; i++) {
            Tapes.book(x, Integer.toString(i), houses[i], 1, 1);
        }
        int[] first = {0, 2, 3, 4, 6};
        int[] books = {2, 1, 1, 2, 1};
        due("counts(2)", 5, x.counts(2));
        for (int c = 0; c < 5; c++) {
            due("crate(" + c + ", 0)", first[c], x.crate(c, 0));
            due("crate(" + c + ", 1)", books[c], x.crate(c, 1));
            due("crate(" + c + ", 2)", houses[first[c]], x.crate(c, 2));
        }
    }

    private void outsizeToo() {
        BooksMoved x = new BooksMoved();
        Tapes.book(x, "2", 0, 1, 100);
        Tapes.book(x, "1", 0, 1, 1);
        due("counts(0)", 1, x.counts(0));
        due("crate(0, 1)", 2, x.crate(0, 1));
        due("where(0, 0, 2)", 0, x.where(0, 0, 2));
        due("where(0, 10, 0)", 2, x.where(0, 10, 0));
    }

    private static BooksMoved sixtyAlternating() {
        BooksMoved x = new BooksMoved();
        for (int i = 0; i < 60; i++) {
            Tapes.book(x, Integer.toString(1000 + i), i % 2, 1, 1);
        }
        x.way(0, 100);
        x.way(1, 100);
        return x;
    }

    private void sixtyCrates() {
        BooksMoved x = sixtyAlternating();
        due("counts(2)", 60, x.counts(2));
        due("meeting(0)", 30, x.meeting(0));
        due("meeting(1)", 3000, x.meeting(1));
        int[] crates = {0, 1, 29, 30, 58, 59};
        int[] begins = {0, 100, 2900, 2900, 100, 0};
        for (int i = 0; i < crates.length; i++) {
            int c = crates[i];
            due("crate(" + c + ", 0)", c, x.crate(c, 0));
            due("crate(" + c + ", 1)", 1, x.crate(c, 1));
            due("crate(" + c + ", 2)", c % 2, x.crate(c, 2));
            due("crate(" + c + ", 3)", begins[i], x.crate(c, 3));
            due("crate(" + c + ", 4)", begins[i] + 100, x.crate(c, 4));
            due("crate(" + c + ", 5)", c < 30 ? 0 : 1, x.crate(c, 5));
            due("where(" + c + ", 0, 2)", c, x.where(c, 0, 2));
        }
        due("crate(60, 0)", -1, x.crate(60, 0));
        x.way(1, 1);
        // Thirty pairs of 100 and 1: fifteen of them for each.
        due("meeting(0) of unlike ways", 30, x.meeting(0));
        due("meeting(1) of unlike ways", 1515, x.meeting(1));
    }

    private void crateOthers() {
        BooksMoved x = new BooksMoved();
        for (int what = 0; what <= 5; what++) {
            due("crate(0, " + what + ") of no BOOKS", -1, x.crate(0, what));
        }
        Tapes.book(x, "1");
        int[] others = {-1, 60, Integer.MIN_VALUE, Integer.MAX_VALUE};
        for (int other : others) {
            for (int what = 0; what <= 5; what++) {
                due("crate(" + other + ", " + what + ")", -1, x.crate(other, what));
            }
            due("crate(0, " + other + ")", -1, x.crate(0, other));
        }
        for (int what = 0; what <= 5; what++) {
            due("crate(1, " + what + ")", -1, x.crate(1, what));
        }
        due("crate(0, 6)", -1, x.crate(0, 6));
    }

    private void fewCrates() {
        BooksMoved x = new BooksMoved();
        due("meeting(0) of none", 0, x.meeting(0));
        due("meeting(1) of none", 0, x.meeting(1));
        x.way(0, 100);
        x.way(1, 1);
        Tapes.book(x, "1", 0, 1, 1);
        due("meeting(0) of one", 0, x.meeting(0));
        due("meeting(1) of one", 100, x.meeting(1));
        due("crate(0, 3) of one", 0, x.crate(0, 3));
        due("crate(0, 4) of one", 100, x.crate(0, 4));
        due("crate(0, 5) of one", 1, x.crate(0, 5));
        Tapes.book(x, "2", 1, 1, 1);
        due("meeting(0) of two", 1, x.meeting(0));
        due("meeting(1) of two", 100, x.meeting(1));
        due("crate(0, 5) of two", 0, x.crate(0, 5));
        due("crate(1, 3) of two", 0, x.crate(1, 3));
        due("crate(1, 4) of two", 1, x.crate(1, 4));
        due("crate(1, 5) of two", 1, x.crate(1, 5));
    }

    private void theFewest() {
        BooksMoved x = new BooksMoved();
        Tapes.book(x, "1", 0, 1, 1);
        Tapes.book(x, "2", 1, 1, 1);
        Tapes.book(x, "3", 0, 1, 1);
        // 0 and 30, 10 and 20, 20 and 10, 30 and 0: one and two are alike.
        due("meeting(0)", 1, x.meeting(0));
        due("meeting(1)", 20, x.meeting(1));
        due("crate(1, 5)", 1, x.crate(1, 5));
        due("crate(1, 3)", 10, x.crate(1, 3));
        x.way(1, 1);
        // 0 and 21, 10 and 11, 11 and 10, 21 and 0.
        due("meeting(0) of 10, 1, 10", 1, x.meeting(0));
        due("meeting(1) of 10, 1, 10", 11, x.meeting(1));
        Tapes.book(x, "4", 1, 1, 1);
        // 0 and 22, 10 and 12, 11 and 11, 21 and 1.
        due("meeting(0) of 10, 1, 10, 1", 2, x.meeting(0));
        due("meeting(1) of 10, 1, 10, 1", 11, x.meeting(1));
    }

    private void manyBecomeOne() {
        BooksMoved x = new BooksMoved();
        x.sizes(-2, 1);
        for (int i = 0; i < 4; i++) {
            Tapes.book(x, Integer.toString(i), 0, 1, 1);
        }
        due("meeting(0) of four", 2, x.meeting(0));
        due("meeting(1) of four", 20, x.meeting(1));
        x.sizes(-2, 1000);
        due("meeting(0) of one", 0, x.meeting(0));
        due("meeting(1) of one", 10, x.meeting(1));
        due("crate(0, 5) of one", 1, x.crate(0, 5));
        due("crate(0, 1) of one", 4, x.crate(0, 1));
        due("crate(1, 0) of one", -1, x.crate(1, 0));
        due("where(3, 0, 2) of one", 0, x.where(3, 0, 2));
        x.sizes(-2, 2);
        due("meeting(0) of two", 1, x.meeting(0));
        due("crate(1, 1) of two", 2, x.crate(1, 1));
    }

    private void meetingOthers() {
        BooksMoved x = Tapes.withMarks("1", "2");
        int[] others = {-1, 2, 3, Integer.MIN_VALUE, Integer.MAX_VALUE};
        for (int other : others) {
            due("meeting(" + other + ")", -1, x.meeting(other));
            due("meeting(" + other + ") of none", -1, new BooksMoved().meeting(other));
        }
    }

    /** CRATES 0 in 0 .. 3 and 1 in 3 .. 10 by the first team, 2 in 0 .. 10 by the other. */
    private static BooksMoved threeCrates() {
        BooksMoved x = new BooksMoved();
        Tapes.book(x, "1", 0, 1, 1);
        Tapes.book(x, "2", 1, 1, 1);
        Tapes.book(x, "3", 2, 1, 1);
        x.way(0, 3);
        x.way(1, 7);
        return x;
    }

    private void beginsAndEnds() {
        BooksMoved x = threeCrates();
        due("meeting(0)", 2, x.meeting(0));
        int[] books = {0, 0, 0, 1, 1, 1, 1, 1, 2, 2, 2};
        int[] minutes = {0, 2, 3, 0, 2, 3, 9, 10, 0, 9, 10};
        int[] at = {1, 1, 2, 0, 0, 1, 1, 2, 1, 1, 2};
        for (int i = 0; i < books.length; i++) {
            due("where(" + books[i] + ", " + minutes[i] + ", 0)", at[i], x.where(books[i], minutes[i], 0));
        }
    }

    private void notBehindBegin() {
        BooksMoved x = threeCrates();
        // WAY 7 is too long for CRATE 1, that begins at 3, even at minute 0.
        due("where(1, 0, 1)", 10, x.where(1, 0, 1));
        // All ways are 10: the other team carries CRATE 2 in 0 .. 10 and CRATE 1 in 10 .. 20.
        BooksMoved y = new BooksMoved();
        Tapes.book(y, "1", 0, 1, 1);
        Tapes.book(y, "2", 1, 1, 1);
        Tapes.book(y, "3", 2, 1, 1);
        due("crate(1, 3)", 10, y.crate(1, 3));
        due("where(1, 0, 1) just in time", 10, y.where(1, 0, 1));
        due("where(1, 1, 1) one too late", 20, y.where(1, 1, 1));
        due("where(1, 9, 1) still in its HOUSE", 20, y.where(1, 9, 1));
        due("where(1, 10, 1) under way", 20, y.where(1, 10, 1));
        due("where(1, 19, 1) under way", 20, y.where(1, 19, 1));
        due("where(1, 20, 1) there", 20, y.where(1, 20, 1));
        due("where(1, 21, 1) there", 21, y.where(1, 21, 1));
        y.way(2, 11);
        y.way(0, 12);
        // Ways of 12, 10, 11: CRATE 1 is under way in 11 .. 21.
        due("crate(1, 3) then", 11, y.crate(1, 3));
        due("where(1, 0, 1) before it begins", 10, y.where(1, 0, 1));
        due("where(1, 1, 1) just in time", 11, y.where(1, 1, 1));
        due("where(1, 2, 1) one too late", 21, y.where(1, 2, 1));
    }

    private void minutes() {
        BooksMoved x = threeCrates();
        due("where(0, 0, 0)", 1, x.where(0, 0, 0));
        due("where(0, 0, 1)", 3, x.where(0, 0, 1));
        due("where(0, 100000, 0)", 2, x.where(0, 100000, 0));
        due("where(0, 100000, 1)", 100000, x.where(0, 100000, 1));
        due("where(0, 100000, 2)", 0, x.where(0, 100000, 2));
        int[] others = {-1, 100001, Integer.MIN_VALUE, Integer.MAX_VALUE};
        for (int other : others) {
            for (int what = 0; what <= 2; what++) {
                due("where(0, " + other + ", " + what + ")", -1, x.where(0, other, what));
            }
        }
    }

    private void whereOthers() {
        due("where(0, 0, 0) of no BOOKS", -1, new BooksMoved().where(0, 0, 0));
        BooksMoved x = threeCrates();
        int[] others = {-1, 3, 60, Integer.MIN_VALUE, Integer.MAX_VALUE};
        for (int other : others) {
            for (int what = 0; what <= 2; what++) {
                due("where(" + other + ", 0, " + what + ")", -1, x.where(other, 0, what));
            }
            due("where(0, 0, " + other + ")", -1, x.where(0, 0, other));
        }
    }

    /** Each change is asked for at once, when the answers from before it are still at hand. */
    private void neverAnOlderOne() {
        BooksMoved x = new BooksMoved();
        due("counts(1)", 0, x.counts(1));
        Tapes.book(x, "1.2", 0, 10, 20);
        due("counts(1) of one", 1, x.counts(1));
        x.shelf(10);
        laidIs(x, 0, 0, 0);
        Tapes.book(x, "1.10", 1, 10, 20);
        laidIs(x, 0, -1, -1);
        due("where(0, 0, 2)", 1, x.where(0, 0, 2));
        x.rule(1);
        laidIs(x, 0, 0, 0);
        due("where(0, 0, 2) by rule 1", 0, x.where(0, 0, 2));
        x.sizes(0, 1);
        due("counts(1) with growth", 2, x.counts(1));
        x.sizes(-1, 19);
        due("counts(1) of a low LIMIT", 0, x.counts(1));
        due("crate(0, 4)", 10, x.crate(0, 4));
        x.way(0, 2);
        due("crate(0, 4) of another WAY", 2, x.crate(0, 4));
        Tapes.book(x, "1.2", 0, 10, 20);
        due("crate(0, 1)", 2, x.crate(0, 1));
        x.sizes(-2, 19);
        due("crate(0, 1) of smaller ones", 1, x.crate(0, 1));
        x.rule(0);
        due("crate(0, 0) by rule 0", 1, x.crate(0, 0));
    }
}
