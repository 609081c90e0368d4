import java.util.Arrays;

/** Promises 19 to 25: each sentence of the document that names a boundary case has a test of its own here. */
final class EdgesOfRow {
    private static final int[] OTHERS = {-1, 60, Integer.MIN_VALUE, Integer.MAX_VALUE};
    private static final int[] SEEDS = {
        0, 1, -1, 12345, 65535, 65536, -65536, 1103515245, Integer.MIN_VALUE, Integer.MIN_VALUE + 1,
        Integer.MAX_VALUE, Integer.MAX_VALUE - 1};

    private final Checks checks;

    EdgesOfRow(Checks checks) {
        this.checks = checks;
    }

    void all() {
        checks.run("promise 19, edge: no BOOKS, no SHELVES, all OUTSIZE, all NOT LAID", this::rowOfNone);
        checks.run("promise 19, edge: sixty BOOKS, and fewer then", this::rowOfSixty);
        checks.run("promise 19, edge: THE ROW is as it was made", this::rowIsKept);
        checks.run("promise 20, edge: NONE if there is none such", this::atOthers);
        checks.run("promise 20, edge: a place that THE ROW had before", this::atOldPlace);
        checks.run("promise 21, edge: from the first place to the last and back", this::misplaceEnds);
        checks.run("promise 21, edge: the last of sixty places", this::misplaceOfSixty);
        checks.run("promise 21, edge: next to it", this::misplaceNext);
        checks.run("promise 21, edge: not another place", this::misplaceSame);
        checks.run("promise 21, edge: false for others", this::misplaceOthers);
        checks.run("promise 22, edge: no BOOK, one, two", this::takenOutOfFew);
        checks.run("promise 22, edge: all but one, none of sixty", this::takenOutOfSixty);
        checks.run("promise 22, edge: fewer BOOKS than before", this::takenOutOfFewer);
        checks.run("promise 22, edge: BOOKS with MARKS that are alike", this::takenOutOfAlike);
        checks.run("promise 22, edge: an answer is never an older one", this::takenOutAnew);
        checks.run("promise 23, edge: of all such sets the first that stands the earliest", this::firstStays);
        checks.run("promise 23, edge: then the second one, and so on", this::secondStays);
        checks.run("promise 23, edge: all orders of six BOOKS", this::allOrdersOfSix);
        checks.run("promise 23, edge: NONE for others", this::isOutOthers);
        checks.run("promise 24, edge: n from 1 to all places but the last", this::drawnFromOneToAll);
        checks.run("promise 24, edge: THE ROW of two BOOKS", this::drawnOfTwo);
        checks.run("promise 24, edge: n different places, whatever the seed", this::drawnDifferent);
        checks.run("promise 24, edge: 32 bits, wrapped around", this::drawnWrapped);
        checks.run("promise 24, edge: BOUNDS at their ends", this::boundsAtTheirEnds);
        checks.run("promise 24, edge: drawing changes nothing", this::drawnChangesNothing);
        checks.run("promise 24, edge: NONE for others", this::drawnOthers);
        checks.run("promise 25, edge: a full object", this::aboutFull);
        checks.run("promise 25, edge: NONE for others", this::aboutOthers);
    }

    private void due(String call, Object want, Object got) {
        checks.due(call, want, got);
    }

    /** THE ROW 0, 1, 2 .. of as many books, each of THICK 1. */
    private static BooksMoved rowOf(int books) {
        BooksMoved x = new BooksMoved();
        for (int i = 0; i < books; i++) {
            Tapes.book(x, Integer.toString(i), 0, 1, 1);
        }
        x.shelf(2000);
        x.row();
        return x;
    }

    /** Brings the BOOKS of THE ROW to these places: always the one from further back. */
    private static void arrange(BooksMoved x, int... books) {
        for (int place = 0; place < books.length; place++) {
            int from = place;
            while (x.at(from) != books[place]) {
                from++;
            }
            if (from > place) {
                x.misplace(from, place);
            }
        }
    }

    private void rowIs(BooksMoved x, int... books) {
        for (int i = 0; i < books.length; i++) {
            due("at(" + i + ")", books[i], x.at(i));
        }
        due("at(" + books.length + ")", -1, x.at(books.length));
        due("about(5)", books.length, x.about(5));
    }

    private void outsAre(BooksMoved x, String outs) {
        int out = 0;
        for (int i = 0; i < outs.length(); i++) {
            due("isOut(" + i + ") of " + outs, outs.charAt(i) - '0', x.isOut(i));
            out += outs.charAt(i) - '0';
        }
        due("takenOut() of " + outs, out, x.takenOut());
    }

    private void rowOfNone() {
        BooksMoved x = new BooksMoved();
        due("row() of nothing", 0, x.row());
        Tapes.book(x, "1", 0, 10, 20);
        due("row() without SHELVES", 0, x.row());
        x.shelf(9);
        due("row(), all NOT LAID", 0, x.row());
        x.shelf(10);
        due("row() of one", 1, x.row());
        rowIs(x, 0);
        x.sizes(-1, 19);
        rowIs(x, 0);
        due("row(), all OUTSIZE", 0, x.row());
        rowIs(x);
    }

    private void rowOfSixty() {
        BooksMoved x = new BooksMoved();
        for (int i = 0; i < 60; i++) {
            Tapes.book(x, Integer.toString(100 - i), 0, 1, 1 + i % 2);
        }
        x.shelf(59);
        x.shelf(1);
        due("row() of sixty", 60, x.row());
        due("at(0)", 59, x.at(0));
        due("at(59)", 0, x.at(59));
        due("at(60)", -1, x.at(60));
        x.sizes(-1, 1);
        due("row() of thirty", 30, x.row());
        due("about(5)", 30, x.about(5));
        due("at(0) of thirty", 58, x.at(0));
        due("at(29)", 0, x.at(29));
        due("at(30)", -1, x.at(30));
    }

    private void rowIsKept() {
        BooksMoved x = new BooksMoved();
        Tapes.book(x, "1.2", 0, 1, 1);
        Tapes.book(x, "1.10", 0, 1, 1);
        due("about(5) before row()", 0, x.about(5));
        x.shelf(10);
        due("about(5) still before row()", 0, x.about(5));
        x.row();
        rowIs(x, 1, 0);
        x.rule(1);
        rowIs(x, 1, 0);
        x.sizes(0, 100);
        x.sizes(-2, 1);
        x.way(0, 1);
        Tapes.book(x, "0", 0, 1, 1);
        x.shelf(10);
        rowIs(x, 1, 0);
        due("misplace(0, 1)", true, x.misplace(0, 1));
        rowIs(x, 0, 1);
        due("laid(0, 1) is not of THE ROW", 1, x.laid(0, 1));
        due("row() then", 3, x.row());
        rowIs(x, 2, 0, 1);
    }

    private void atOthers() {
        BooksMoved x = rowOf(3);
        due("at(0)", 0, x.at(0));
        due("at(2)", 2, x.at(2));
        due("at(3)", -1, x.at(3));
        due("at(0) of none", -1, new BooksMoved().at(0));
        for (int other : OTHERS) {
            due("at(" + other + ")", -1, x.at(other));
            due("at(" + other + ") of none", -1, new BooksMoved().at(other));
        }
    }

    private void atOldPlace() {
        BooksMoved x = new BooksMoved();
        for (int i = 0; i < 3; i++) {
            Tapes.book(x, Integer.toString(i), 0, 1, 1 + i);
        }
        x.shelf(10);
        x.row();
        rowIs(x, 0, 1, 2);
        x.sizes(-1, 1);
        x.row();
        rowIs(x, 0);
        for (int place = 1; place < 4; place++) {
            due("at(" + place + ")", -1, x.at(place));
            due("isOut(" + place + ")", -1, x.isOut(place));
            due("misplace(0, " + place + ")", false, x.misplace(0, place));
            due("misplace(" + place + ", 0)", false, x.misplace(place, 0));
        }
    }

    private void misplaceEnds() {
        BooksMoved x = rowOf(4);
        due("misplace(0, 3)", true, x.misplace(0, 3));
        rowIs(x, 1, 2, 3, 0);
        due("misplace(3, 0)", true, x.misplace(3, 0));
        rowIs(x, 0, 1, 2, 3);
        due("misplace(3, 0) again", true, x.misplace(3, 0));
        rowIs(x, 3, 0, 1, 2);
        due("misplace(1, 3)", true, x.misplace(1, 3));
        rowIs(x, 3, 1, 2, 0);
        due("misplace(2, 0)", true, x.misplace(2, 0));
        rowIs(x, 2, 3, 1, 0);
    }

    private void misplaceOfSixty() {
        BooksMoved x = rowOf(60);
        due("misplace(0, 59)", true, x.misplace(0, 59));
        for (int i = 0; i < 59; i++) {
            due("at(" + i + ")", i + 1, x.at(i));
        }
        due("at(59)", 0, x.at(59));
        due("misplace(59, 0)", true, x.misplace(59, 0));
        due("at(0) then", 0, x.at(0));
        due("at(59) then", 59, x.at(59));
        due("misplace(0, 60)", false, x.misplace(0, 60));
        due("misplace(60, 0)", false, x.misplace(60, 0));
    }

    private void misplaceNext() {
        BooksMoved x = rowOf(3);
        due("misplace(0, 1)", true, x.misplace(0, 1));
        rowIs(x, 1, 0, 2);
        due("misplace(2, 1)", true, x.misplace(2, 1));
        rowIs(x, 1, 2, 0);
        due("misplace(1, 2)", true, x.misplace(1, 2));
        rowIs(x, 1, 0, 2);
        due("misplace(1, 0)", true, x.misplace(1, 0));
        rowIs(x, 0, 1, 2);
    }

    private void misplaceSame() {
        BooksMoved x = rowOf(3);
        for (int place = 0; place < 3; place++) {
            due("misplace(" + place + ", " + place + ")", false, x.misplace(place, place));
        }
        rowIs(x, 0, 1, 2);
        BooksMoved one = rowOf(1);
        due("misplace(0, 0) of one", false, one.misplace(0, 0));
        due("misplace(0, 1) of one", false, one.misplace(0, 1));
        rowIs(one, 0);
    }

    private void misplaceOthers() {
        BooksMoved x = rowOf(3);
        arrange(x, 2, 0, 1);
        int[] others = {-1, 3, 60, Integer.MIN_VALUE, Integer.MAX_VALUE};
        for (int other : others) {
            due("misplace(" + other + ", 0)", false, x.misplace(other, 0));
            due("misplace(0, " + other + ")", false, x.misplace(0, other));
            due("misplace(" + other + ", " + other + ")", false, x.misplace(other, other));
            due("misplace(0, " + other + ") of none", false, new BooksMoved().misplace(0, other));
        }
        rowIs(x, 2, 0, 1);
        outsAre(x, "100");
    }

    private void takenOutOfFew() {
        due("takenOut() of a new object", 0, new BooksMoved().takenOut());
        due("takenOut() of none", 0, rowOf(0).takenOut());
        due("takenOut() of one", 0, rowOf(1).takenOut());
        BooksMoved x = rowOf(2);
        outsAre(x, "00");
        x.misplace(0, 1);
        outsAre(x, "01");
        x.misplace(1, 0);
        outsAre(x, "00");
    }

    private void takenOutOfSixty() {
        BooksMoved x = rowOf(60);
        due("takenOut() in THE ORDER", 0, x.takenOut());
        for (int place = 0; place < 59; place++) {
            x.misplace(59, place);
        }
        due("takenOut() turned round", 59, x.takenOut());
        due("isOut(0)", 0, x.isOut(0));
        for (int place = 1; place < 60; place++) {
            due("isOut(" + place + ")", 1, x.isOut(place));
        }
        due("isOut(60)", -1, x.isOut(60));
    }

    private void takenOutOfFewer() {
        BooksMoved x = new BooksMoved();
        for (int i = 0; i < 6; i++) {
            Tapes.book(x, Integer.toString(i), 0, 1, i == 0 || i == 5 ? 50 : 1);
        }
        x.shelf(100);
        x.sizes(-1, 100);
        x.row();
        outsAre(x, "000000");
        x.sizes(-1, 30);
        due("row() of the middle four", 4, x.row());
        outsAre(x, "0000");
        due("isOut(4)", -1, x.isOut(4));
        arrange(x, 4, 3, 2, 1);
        outsAre(x, "0111");
        x.sizes(-1, 100);
        due("row() of all", 6, x.row());
        outsAre(x, "000000");
    }

    private void takenOutOfAlike() {
        BooksMoved x = Tapes.withMarks("7", "07", "007");
        x.shelf(1000);
        x.row();
        rowIs(x, 0, 1, 2);
        outsAre(x, "000");
        // Alike, but by their numbers 0 is ahead.
        arrange(x, 1, 0, 2);
        outsAre(x, "010");
        arrange(x, 2, 1, 0);
        outsAre(x, "011");
    }

    private void takenOutAnew() {
        BooksMoved x = Tapes.withMarks("1.2", "1.10", "5");
        x.shelf(1000);
        due("takenOut() before row()", 0, x.takenOut());
        x.row();
        outsAre(x, "000");
        x.misplace(2, 0);
        outsAre(x, "100");
        x.rule(1);
        outsAre(x, "011");
        due("rule(2)", false, x.rule(2));
        outsAre(x, "011");
        x.misplace(0, 2);
        outsAre(x, "010");
        x.row();
        outsAre(x, "000");
        rowIs(x, 0, 1, 2);
    }

    private void firstStays() {
        BooksMoved x = rowOf(4);
        arrange(x, 1, 0, 2, 3);
        outsAre(x, "0100");
        arrange(x, 2, 3, 0, 1);
        outsAre(x, "0011");
        // 3 is the earliest of all, but it is in no such set.
        arrange(x, 3, 1, 0, 2);
        outsAre(x, "1010");
    }

    private void secondStays() {
        BooksMoved x = rowOf(5);
        arrange(x, 0, 2, 1, 3, 4);
        outsAre(x, "00100");
        arrange(x, 0, 1, 4, 3, 2);
        outsAre(x, "00011");
        arrange(x, 0, 3, 4, 1, 2);
        outsAre(x, "00011");
        // 4 is in none of the longest: 0 1 2 and 0 1 3.
        arrange(x, 0, 4, 1, 3, 2);
        outsAre(x, "01001");
    }

    private void allOrdersOfSix() {
        int[] books = {0, 1, 2, 3, 4, 5};
        ordersFrom(books, 0);
    }

    private void ordersFrom(int[] books, int place) {
        if (place == books.length) {
            BooksMoved x = rowOf(6);
            arrange(x, books);
            outsAre(x, outsOfAllSets(books));
            return;
        }
        for (int i = place; i < books.length; i++) {
            int[] next = books.clone();
            next[place] = books[i];
            next[i] = books[place];
            ordersFrom(next, place + 1);
        }
    }

    /** Of all sets that stay the greatest, and of like ones the one that is the first as a word of 0 (stays) and 1. */
    private static String outsOfAllSets(int[] books) {
        String best = null;
        int most = -1;
        for (int set = 0; set < 1 << books.length; set++) {
            StringBuilder outs = new StringBuilder();
            int last = -1;
            boolean inOrder = true;
            for (int i = 0; i < books.length; i++) {
                boolean stays = (set >> i & 1) != 0;
                outs.append(stays ? '0' : '1');
                inOrder &= !stays || books[i] > last;
                last = stays ? books[i] : last;
            }
            int stay = Integer.bitCount(set);
            if (inOrder && (stay > most || stay == most && outs.toString().compareTo(best) < 0)) {
                most = stay;
                best = outs.toString();
            }
        }
        return best;
    }

    private void isOutOthers() {
        due("isOut(0) of none", -1, new BooksMoved().isOut(0));
        BooksMoved x = rowOf(2);
        outsAre(x, "00");
        due("isOut(2)", -1, x.isOut(2));
        for (int other : OTHERS) {
            due("isOut(" + other + ")", -1, x.isOut(other));
        }
    }

    private void drawnIs(BooksMoved x, int n, int seed, int behind, int least, int most) {
        due("drawn(" + n + ", " + seed + ", 0)", behind, x.drawn(n, seed, 0));
        due("drawn(" + n + ", " + seed + ", 1)", least, x.drawn(n, seed, 1));
        due("drawn(" + n + ", " + seed + ", 2)", most, x.drawn(n, seed, 2));
    }

    private void drawnFromOneToAll() {
        BooksMoved x = rowOf(10);
        for (int n = 1; n <= 9; n++) {
            drawnIs(x, n, 4711, 0, 0, 9 - n);
        }
        for (int n : new int[] {0, 10, 11, -1, 60, Integer.MIN_VALUE, Integer.MAX_VALUE}) {
            drawnIs(x, n, 4711, -1, -1, -1);
        }
    }

    private void drawnOfTwo() {
        BooksMoved x = rowOf(2);
        for (int seed : SEEDS) {
            drawnIs(x, 1, seed, 0, 0, 0);
        }
        x.misplace(0, 1);
        for (int seed : SEEDS) {
            drawnIs(x, 1, seed, 1, 1, 1);
        }
        drawnIs(x, 2, 0, -1, -1, -1);
        drawnIs(x, 0, 0, -1, -1, -1);
        drawnIs(rowOf(1), 1, 0, -1, -1, -1);
        drawnIs(rowOf(0), 1, 0, -1, -1, -1);
        drawnIs(rowOf(0), -1, 0, -1, -1, -1);
        drawnIs(rowOf(0), 0, 0, -1, -1, -1);
    }

    private void drawnDifferent() {
        // Every other place is such a one: all places together find each of them once.
        BooksMoved x = rowOf(60);
        for (int place = 0; place < 60; place += 2) {
            x.misplace(place, place + 1);
        }
        for (int seed : SEEDS) {
            drawnIs(x, 59, seed, 30, 30, 30);
            int behind = x.drawn(58, seed, 0);
            due("drawn(58, " + seed + ", 0) is 29 or 30", true, behind == 29 || behind == 30);
            due("drawn(58, " + seed + ", 2)", behind + 1, x.drawn(58, seed, 2));
        }
    }

    /** The places that are drawn, by whole numbers of 64 bits: nothing is wrapped around here but by the mask. */
    private static int[] placesDrawn(int n, int seed, int m) {
        long[] places = new long[m];
        for (int i = 0; i < m; i++) {
            places[i] = i;
        }
        long s = seed & 0xffffffffL;
        for (int i = 0; i < n; i++) {
            s = s * 1103515245L + 12345L & 0xffffffffL;
            int other = i + (int) (s / 65536 % (m - i));
            long place = places[i];
            places[i] = places[other];
            places[other] = place;
        }
        return Arrays.stream(places).limit(n).mapToInt(p -> (int) p).toArray();
    }

    private void drawnWrapped() {
        int books = 13;
        for (int seed : SEEDS) {
            BooksMoved x = rowOf(books);
            arrange(x, 12, 3, 5, 4, 11, 0, 1, 7, 6, 2, 10, 9, 8);
            int[] row = new int[books];
            for (int place = 0; place < books; place++) {
                row[place] = x.at(place);
            }
            for (int n = 1; n < books; n++) {
                int behind = 0;
                for (int place : placesDrawn(n, seed, books - 1)) {
                    behind += row[place] > row[place + 1] ? 1 : 0;
                }
                drawnIs(x, n, seed, behind, behind, behind + books - 1 - n);
            }
        }
    }

    private void boundsAtTheirEnds() {
        BooksMoved x = rowOf(60);
        drawnIs(x, 1, 5, 0, 0, 58);
        drawnIs(x, 59, 5, 0, 0, 0);
        for (int place = 0; place < 59; place++) {
            x.misplace(59, place);
        }
        drawnIs(x, 1, 5, 1, 1, 59);
        drawnIs(x, 30, 5, 30, 30, 59);
        drawnIs(x, 59, 5, 59, 59, 59);
    }

    private void drawnChangesNothing() {
        BooksMoved x = rowOf(6);
        arrange(x, 3, 1, 5, 0, 2, 4);
        outsAre(x, "101100");
        int first = x.drawn(2, 99, 0);
        for (int seed : SEEDS) {
            x.drawn(5, seed, 0);
        }
        rowIs(x, 3, 1, 5, 0, 2, 4);
        outsAre(x, "101100");
        due("drawn(2, 99, 0) again", first, x.drawn(2, 99, 0));
        due("drawn(2, 99, 0) once more", first, x.drawn(2, 99, 0));
    }

    private void drawnOthers() {
        BooksMoved x = rowOf(4);
        due("drawn(3, 1, 0)", 0, x.drawn(3, 1, 0));
        for (int what : new int[] {-1, 3, 4, Integer.MIN_VALUE, Integer.MAX_VALUE}) {
            due("drawn(1, 1, " + what + ")", -1, x.drawn(1, 1, what));
            due("drawn(3, 1, " + what + ")", -1, x.drawn(3, 1, what));
        }
        drawnIs(new BooksMoved(), 1, 1, -1, -1, -1);
        drawnIs(new BooksMoved(), 0, 1, -1, -1, -1);
    }

    private void aboutFull() {
        BooksMoved x = rowOf(60);
        for (int i = 1; i < 16; i++) {
            x.shelf(1);
        }
        x.rule(1);
        x.sizes(-1, 100);
        x.sizes(-2, 1000);
        for (int t = 0; t < 10; t++) {
            x.sizes(t, 100 - t);
        }
        for (int h = 0; h < 5; h++) {
            x.way(h, 100 - h);
        }
        x.feed(-1, -1, -1, -1, -1);
        int[] first = {60, 16, 1, 100, 1000, 60, 20};
        for (int what = 0; what < first.length; what++) {
            due("about(" + what + ")", first[what], x.about(what));
        }
        for (int t = 0; t < 10; t++) {
            due("about(1" + t + ")", 100 - t, x.about(10 + t));
        }
        for (int h = 0; h < 5; h++) {
            due("about(2" + h + ")", 100 - h, x.about(20 + h));
        }
    }

    private void aboutOthers() {
        BooksMoved x = rowOf(2);
        for (int what : new int[] {-3, -2, -1, 7, 8, 9, 25, 26, 30, 60, Integer.MIN_VALUE, Integer.MAX_VALUE}) {
            due("about(" + what + ")", -1, x.about(what));
            due("about(" + what + ") of a new object", -1, new BooksMoved().about(what));
        }
    }
}
