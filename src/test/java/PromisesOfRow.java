/** Promises 19 to 25: THE ROW, what is TAKEN OUT or DRAWN, and about. */
final class PromisesOfRow {
    private final Checks checks;

    PromisesOfRow(Checks checks) {
        this.checks = checks;
    }

    void all() {
        checks.run("promise 19: row", this::row);
        checks.run("promise 19: row stays as it was made", this::rowStays);
        checks.run("promise 20: at", this::at);
        checks.run("promise 21: misplace", this::misplace);
        checks.run("promise 22: takenOut", this::takenOut);
        checks.run("promise 22: takenOut by THE RULE", this::takenOutByRule);
        checks.run("promise 23: isOut", this::isOut);
        checks.run("promise 24: drawn", this::drawn);
        checks.run("promise 24: the first place of many seeds", this::drawnFirst);
        checks.run("promise 24: drawn of others", this::drawnOfOthers);
        checks.run("promise 25: about", this::about);
    }

    private void due(String call, Object want, Object got) {
        checks.due(call, want, got);
    }

    /** THE ROW 0, 1, 2 .. of as many books. */
    private static BooksMoved rowOf(int books) {
        BooksMoved x = new BooksMoved();
        for (int i = 0; i < books; i++) {
            Tapes.book(x, Integer.toString(i), 0, 1, 1);
        }
        x.shelf(2000);
        x.row();
        return x;
    }

    /** Brings the books of THE ROW to these places, whatever their order was. */
    private static void arrange(BooksMoved x, int... books) {
        for (int place = 0; place < books.length; place++) {
            for (int from = place + 1; from < books.length; from++) {
                if (x.at(from) == books[place]) {
                    x.misplace(from, place);
                }
            }
        }
    }

    private void rowIs(BooksMoved x, int... books) {
        for (int i = 0; i < books.length; i++) {
            due("at(" + i + ")", books[i], x.at(i));
        }
        due("at(" + books.length + ")", -1, x.at(books.length));
        due("about(5)", books.length, x.about(5));
    }

    private void row() {
        BooksMoved x = new BooksMoved();
        Tapes.book(x, "3", 0, 10, 30);
        Tapes.book(x, "2", 0, 10, 31);
        Tapes.book(x, "1", 0, 10, 30);
        Tapes.book(x, "4", 0, 10, 30);
        due("row() without shelves", 0, x.row());
        x.shelf(10);
        x.shelf(10);
        due("row() of two", 2, x.row());
        rowIs(x, 2, 0);
        x.sizes(-1, 31);
        due("row() with others", 2, x.row());
        rowIs(x, 2, 1);
        x.shelf(2000);
        due("row() of all", 4, x.row());
        rowIs(x, 2, 1, 0, 3);
        x.misplace(0, 3);
        due("row() made anew", 4, x.row());
        rowIs(x, 2, 1, 0, 3);
    }

    private void rowStays() {
        BooksMoved x = Tapes.withMarks("1.2", "1.10");
        x.shelf(2000);
        x.row();
        rowIs(x, 1, 0);
        Tapes.book(x, "0");
        x.rule(1);
        x.sizes(-1, 1);
        rowIs(x, 1, 0);
        due("takenOut()", 1, x.takenOut());
        due("row() then", 0, x.row());
        x.sizes(-1, 100);
        due("row() at last", 3, x.row());
        rowIs(x, 2, 0, 1);
    }

    private void at() {
        BooksMoved x = rowOf(3);
        rowIs(x, 0, 1, 2);
        due("at(-1)", -1, x.at(-1));
        due("at(least)", -1, x.at(Integer.MIN_VALUE));
        due("at(most)", -1, x.at(Integer.MAX_VALUE));
        rowIs(rowOf(0));
    }

    private void misplace() {
        BooksMoved x = rowOf(5);
        due("misplace(1, 3)", true, x.misplace(1, 3));
        rowIs(x, 0, 2, 3, 1, 4);
        due("misplace(4, 0)", true, x.misplace(4, 0));
        rowIs(x, 4, 0, 2, 3, 1);
        due("misplace(0, 4)", true, x.misplace(0, 4));
        due("misplace(1, 2)", true, x.misplace(1, 2));
        rowIs(x, 0, 3, 2, 1, 4);
        int[][] others = {
            {-1, 0}, {0, -1}, {5, 0}, {0, 5}, {2, 2}, {Integer.MAX_VALUE, 0}, {0, Integer.MIN_VALUE}};
        for (int[] o : others) {
            due("misplace(" + o[0] + ", " + o[1] + ")", false, x.misplace(o[0], o[1]));
        }
        rowIs(x, 0, 3, 2, 1, 4);
    }

    private void takenOut() {
        BooksMoved x = rowOf(6);
        due("takenOut()", 0, x.takenOut());
        arrange(x, 1, 0, 2, 3, 5, 4);
        due("takenOut() of two pairs", 2, x.takenOut());
        arrange(x, 5, 4, 3, 2, 1, 0);
        due("takenOut() turned round", 5, x.takenOut());
        arrange(x, 3, 4, 5, 0, 1, 2);
        due("takenOut() of halves", 3, x.takenOut());
        arrange(x, 5, 0, 1, 2, 3, 4);
        due("takenOut() of one", 1, x.takenOut());
        x.row();
        due("takenOut() of a row made anew", 0, x.takenOut());
        due("takenOut() of nothing", 0, rowOf(0).takenOut());
        due("takenOut() of one alone", 0, rowOf(1).takenOut());
    }

    private void takenOutByRule() {
        BooksMoved x = Tapes.withMarks("1.2", "1.10", "1.02", "1.1");
        x.shelf(2000);
        x.row();
        rowIs(x, 2, 3, 1, 0);
        due("takenOut()", 0, x.takenOut());
        x.rule(1);
        // By numbers: 3 (1), 0 (2), 2 (02), 1 (10).
        due("takenOut() by rule 1", 2, x.takenOut());
        due("isOut(0)", 0, x.isOut(0));
        due("isOut(1)", 1, x.isOut(1));
        due("isOut(2)", 0, x.isOut(2));
        due("isOut(3)", 1, x.isOut(3));
        x.rule(0);
        due("takenOut() by rule 0", 0, x.takenOut());
        due("isOut(1) by rule 0", 0, x.isOut(1));
    }

    private void outsAre(BooksMoved x, String outs) {
        for (int i = 0; i < outs.length(); i++) {
            due("isOut(" + i + ") of " + outs, outs.charAt(i) - '0', x.isOut(i));
        }
    }

    private void isOut() {
        BooksMoved x = rowOf(6);
        outsAre(x, "000000");
        arrange(x, 5, 4, 3, 2, 1, 0);
        outsAre(x, "011111");
        arrange(x, 3, 4, 5, 0, 1, 2);
        outsAre(x, "000111");
        arrange(x, 1, 0, 3, 2, 5, 4);
        outsAre(x, "010101");
        arrange(x, 5, 0, 4, 1, 3, 2);
        // 0, 1, 3 and 0, 1, 2 are the longest: the first has the earlier places.
        outsAre(x, "101001");
        arrange(x, 2, 5, 3, 0, 1, 4);
        // 2 3 4 and 0 1 4 are the longest ones.
        outsAre(x, "010110");
        arrange(x, 0, 5, 4, 1, 3, 2);
        outsAre(x, "011001");
        due("isOut(6)", -1, x.isOut(6));
        due("isOut(-1)", -1, x.isOut(-1));
        due("isOut(most)", -1, x.isOut(Integer.MAX_VALUE));
    }

    private void drawnIs(BooksMoved x, int n, int seed, int behind, int least, int most) {
        due("drawn(" + n + ", " + seed + ", 0)", behind, x.drawn(n, seed, 0));
        due("drawn(" + n + ", " + seed + ", 1)", least, x.drawn(n, seed, 1));
        due("drawn(" + n + ", " + seed + ", 2)", most, x.drawn(n, seed, 2));
    }

    private void drawn() {
        BooksMoved x = rowOf(5);
        drawnIs(x, 4, 77, 0, 0, 0);
        drawnIs(x, 1, 77, 0, 0, 3);
        arrange(x, 4, 3, 2, 1, 0);
        drawnIs(x, 4, 77, 4, 4, 4);
        drawnIs(x, 3, Integer.MIN_VALUE, 3, 3, 4);
        drawnIs(x, 1, -1, 1, 1, 4);
        // With seed 0 s is 12345, then -740551042, then -1492899873: its upper halves are 0, 54236, 42756,
        // the places 0, then 1 + 54236 % 3 = 3, then 2 + 42756 % 2 = 2.
        arrange(x, 1, 0, 2, 3, 4);
        drawnIs(x, 1, 0, 1, 1, 4);
        drawnIs(x, 2, 0, 1, 1, 3);
        arrange(x, 0, 1, 2, 4, 3);
        drawnIs(x, 1, 0, 0, 0, 3);
        drawnIs(x, 2, 0, 1, 1, 3);
        arrange(x, 0, 1, 3, 2, 4);
        drawnIs(x, 2, 0, 0, 0, 2);
        drawnIs(x, 3, 0, 1, 1, 2);
        arrange(x, 0, 2, 1, 3, 4);
        drawnIs(x, 3, 0, 0, 0, 1);
        drawnIs(x, 4, 0, 1, 1, 1);
        rowIs(x, 0, 2, 1, 3, 4);
    }

    private void drawnFirst() {
        int[] seeds = {1, 2, -1, 9999, 123456789, -987654321, Integer.MAX_VALUE, Integer.MIN_VALUE};
        BooksMoved x = rowOf(40);
        for (int seed : seeds) {
            long s = (seed * 1103515245L + 12345L) & 0xffffffffL;
            int place = (int) ((s >> 16) % 39);
            drawnIs(x, 1, seed, 0, 0, 38);
            x.misplace(place, place + 1);
            drawnIs(x, 1, seed, 1, 1, 39);
            x.misplace(place, place + 1);
        }
    }

    private void drawnOfOthers() {
        BooksMoved x = rowOf(3);
        due("drawn(2, 5, 0)", 0, x.drawn(2, 5, 0));
        int[][] others = {{0, 0}, {3, 0}, {-1, 0}, {1, 3}, {1, -1}, {Integer.MAX_VALUE, 0}, {Integer.MIN_VALUE, 0}};
        for (int[] o : others) {
            due("drawn(" + o[0] + ", 5, " + o[1] + ")", -1, x.drawn(o[0], 5, o[1]));
        }
        due("drawn(1, 5, 0) of one book", -1, rowOf(1).drawn(1, 5, 0));
        due("drawn(0, 5, 0) of one book", -1, rowOf(1).drawn(0, 5, 0));
        due("drawn(0, 5, 0) of no book", -1, rowOf(0).drawn(0, 5, 0));
        due("drawn(-1, 5, 0) of no book", -1, rowOf(0).drawn(-1, 5, 0));
    }

    private void about() {
        BooksMoved x = rowOf(2);
        Tapes.book(x, "7");
        x.rule(1);
        x.sizes(-1, 44);
        x.sizes(-2, 55);
        for (int t = 0; t < 10; t++) {
            x.sizes(t, 60 + t);
        }
        for (int h = 0; h < 5; h++) {
            x.way(h, 80 + h);
        }
        x.feed(0, 0, 0, 0, 0);
        x.end(9);
        int[] first = {3, 1, 1, 44, 55, 2, 9};
        for (int what = -2; what <= 40; what++) {
            int want = what >= 0 && what < 7 ? first[what]
                    : what >= 10 && what < 20 ? 50 + what
                    : what >= 20 && what < 25 ? 60 + what : -1;
            due("about(" + what + ")", want, x.about(what));
        }
        due("about(least)", -1, x.about(Integer.MIN_VALUE));
        due("about(most)", -1, x.about(Integer.MAX_VALUE));
    }
}
