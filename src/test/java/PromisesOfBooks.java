/** Promises 1 to 9: a new object, the tape, BOOKS and THE ORDER. */
final class PromisesOfBooks {
    private final Checks checks;

    PromisesOfBooks(Checks checks) {
        this.checks = checks;
    }

    void all() {
        checks.run("promise 1: a new object", this::newObject);
        checks.run("promise 2: feed", this::feed);
        checks.run("promise 2: the highest byte is the first", this::feedOrder);
        checks.run("promise 3: end", this::end);
        checks.run("promise 4: book", this::book);
        checks.run("promise 4: what leaves the tape", this::bookLeavesTape);
        checks.run("promise 4: sixty books", this::sixtyBooks);
        checks.run("promise 5: wrong", this::wrong);
        checks.run("promise 6: rule", this::rule);
        checks.run("promise 7: compare by number, letters and book", this::compareSame);
        checks.run("promise 7: compare by behind", this::compareBehind);
        checks.run("promise 7: compare of others", this::compareOthers);
        checks.run("promise 8: ordered", this::ordered);
        checks.run("promise 9: quarrels", this::quarrels);
    }

    private void due(String call, Object want, Object got) {
        checks.due(call, want, got);
    }

    private void newObject() {
        BooksMoved x = new BooksMoved();
        for (int what = 0; what <= 6; what++) {
            due("about(" + what + ")", new int[] {0, 0, 0, 30, 100, 0, 0}[what], x.about(what));
        }
        for (int t = 0; t < 10; t++) {
            due("about(1" + t + ")", 0, x.about(10 + t));
        }
        for (int h = 0; h < 5; h++) {
            due("about(2" + h + ")", 10, x.about(20 + h));
        }
        due("wrong()", BooksMoved.NONE, x.wrong());
        due("quarrels()", 0, x.quarrels());
        due("ordered(0, 0)", -1, x.ordered(0, 0));
        due("compare(0, 0, 0)", -2, x.compare(0, 0, 0));
        due("laid(0, 0)", -1, x.laid(0, 0));
        due("shelfOf(0, 0)", -1, x.shelfOf(0, 0));
        due("counts(0)", 0, x.counts(0));
        due("counts(1)", 0, x.counts(1));
        due("counts(2)", 0, x.counts(2));
        due("crate(0, 0)", -1, x.crate(0, 0));
        due("meeting(0)", 0, x.meeting(0));
        due("meeting(1)", 0, x.meeting(1));
        due("where(0, 0, 0)", -1, x.where(0, 0, 0));
        due("at(0)", -1, x.at(0));
        due("misplace(0, 0)", false, x.misplace(0, 0));
        due("misplace(0, 1)", false, x.misplace(0, 1));
        due("takenOut()", 0, x.takenOut());
        due("isOut(0)", -1, x.isOut(0));
        due("drawn(1, 0, 0)", -1, x.drawn(1, 0, 0));
        due("row()", 0, x.row());
    }

    private void feed() {
        BooksMoved x = new BooksMoved();
        due("feed", 20, x.feed(-1, 0, 0, 0, 0));
        due("feed of a full tape", -1, x.feed(0, 0, 0, 0, 0));
        due("about(6)", 20, x.about(6));
        x.end(1);
        due("feed of a tape of one", -1, x.feed(0, 0, 0, 0, 0));
        due("about(6) of a tape of one", 1, x.about(6));
        x.end(0);
        due("feed of an empty tape", 20, x.feed(0, 0, 0, 0, 0));
    }

    private void feedOrder() {
        BooksMoved x = new BooksMoved();
        Tapes.put(x, "1234.5678abc");
        due("book", 0, x.book(0, 1, 1));
        Tapes.put(x, "1234.5678abb");
        due("book", 1, x.book(0, 1, 1));
        Tapes.put(x, "1234.5677abc");
        due("book", 2, x.book(0, 1, 1));
        Tapes.put(x, "1233.5678abc");
        due("book", 3, x.book(0, 1, 1));
        for (int i = 0; i < 4; i++) {
            due("ordered(" + i + ", 0)", 3 - i, x.ordered(i, 0));
        }
        for (int i = 0; i < 20; i++) {
            String text = "00000000000000000000".substring(0, i) + "x";
            Tapes.put(x, text);
            x.book(0, 1, 1);
            due("wrong() of " + text, i == 0 ? 0 : i <= 4 ? -1 : 4, x.wrong());
        }
        Tapes.put(x, "12\u00b1");
        x.book(0, 1, 1);
        due("wrong() of a byte above 127", 2, x.wrong());
    }

    private void end() {
        BooksMoved x = new BooksMoved();
        due("end(1)", -1, x.end(1));
        due("end(0)", 0, x.end(0));
        x.feed(Tapes.word("1234", 0), Tapes.word("5678", 0), 0, 0, 0);
        due("end(21)", -1, x.end(21));
        due("end(-1)", -1, x.end(-1));
        due("end(least)", -1, x.end(Integer.MIN_VALUE));
        due("end(most)", -1, x.end(Integer.MAX_VALUE));
        due("about(6)", 20, x.about(6));
        due("end(20)", 20, x.end(20));
        due("end(3)", 3, x.end(3));
        due("end(4)", -1, x.end(4));
        due("about(6) then", 3, x.about(6));
        due("book", 0, x.book(0, 1, 1));
        due("end(1) of a tape that was read", -1, x.end(1));
    }

    private void book() {
        BooksMoved x = new BooksMoved();
        due("book 1", 0, Tapes.book(x, "1", 0, 1, 1));
        due("about(6)", 0, x.about(6));
        due("book 9999.9999zzz", 1, Tapes.book(x, "9999.9999zzz", 4, 200, 100));
        due("book 0a", 2, Tapes.book(x, "0a", 0, 1, 1));
        due("book 12.3", 3, Tapes.book(x, "12.3", 0, 1, 1));
        due("book of nothing", -1, x.book(0, 1, 1));
        due("about(0)", 4, x.about(0));
        due("a wrong one", -1, Tapes.book(x, "x", 0, 1, 1));
        due("about(6) of a wrong one", 0, x.about(6));
        due("about(0) of a wrong one", 4, x.about(0));
    }

    private void bookLeavesTape() {
        int[][] others = {
            {-1, 1, 1}, {5, 1, 1}, {0, 0, 1}, {0, 201, 1}, {0, 1, 0}, {0, 1, 101},
            {Integer.MIN_VALUE, 1, 1}, {Integer.MAX_VALUE, 1, 1}, {0, -1, 1}, {0, 1, -1}};
        BooksMoved x = new BooksMoved();
        Tapes.book(x, "1.");
        Tapes.put(x, "a");
        for (int[] o : others) {
            due("book of others", -1, x.book(o[0], o[1], o[2]));
            due("about(6)", 1, x.about(6));
            due("wrong()", 2, x.wrong());
        }
        due("book", -1, x.book(0, 1, 1));
        due("wrong() then", 0, x.wrong());
    }

    private void sixtyBooks() {
        BooksMoved x = new BooksMoved();
        for (int i = 0; i < 60; i++) {
            due("book " + i, i, Tapes.book(x, Integer.toString(100 - i)));
        }
        Tapes.put(x, "7a7");
        due("book 60", -1, x.book(0, 1, 1));
        due("about(6)", 3, x.about(6));
        due("about(0)", 60, x.about(0));
        due("wrong()", -1, x.wrong());
        due("ordered(0, 0)", 59, x.ordered(0, 0));
        due("ordered(59, 1)", 0, x.ordered(59, 1));
        due("ordered(60, 1)", -1, x.ordered(60, 1));
    }

    private void wrong() {
        String[] marks = {
            "", "a", ".", ".1", " 1", "/", ":", "1.", "1.a", "1..2", "12345", "1234.", "1234.56789", "1.2.3", "1.2abcd",
            "1abcd", "1a1", "1a.", "1A", "1`", "1{", "1/", "1:", "1-", "1 ", "1.2ab ", "1234.5678abcd", "1234.5678abc1",
            "1.2:", "1.2/", "1\0"};
        int[] at = {
            0, 0, 0, 0, 0, 0, 0, 2, 2, 2, 4, 5, 9, 3, 6,
            4, 2, 2, 1, 1, 1, 1, 1, 1, 1, 5, 12, 12,
            3, 3, 1};
        BooksMoved x = new BooksMoved();
        for (int i = 0; i < marks.length; i++) {
            due("book of " + marks[i], -1, Tapes.book(x, marks[i]));
            due("wrong() of " + marks[i], at[i], x.wrong());
            due("about(6) of " + marks[i], 0, x.about(6));
        }
        due("book of 1", 0, Tapes.book(x, "1"));
        due("wrong() of 1", -1, x.wrong());
        due("about(0)", 1, x.about(0));
    }

    private void rule() {
        BooksMoved x = Tapes.withMarks("1.2", "1.10");
        due("rule(1)", true, x.rule(1));
        due("rule(2)", false, x.rule(2));
        due("rule(-1)", false, x.rule(-1));
        due("rule(most)", false, x.rule(Integer.MAX_VALUE));
        due("about(2)", 1, x.about(2));
        x.shelf(2000);
        due("laid(0, 1) by rule 1", 0, x.laid(0, 1));
        due("crate(0, 0) by rule 1", 0, x.crate(0, 0));
        due("rule(0)", true, x.rule(0));
        due("about(2)", 0, x.about(2));
        due("laid(0, 1) by rule 0", 1, x.laid(0, 1));
        due("crate(0, 0) by rule 0", 1, x.crate(0, 0));
    }

    private void both(BooksMoved x, int a, int b, int byRule0, int byRule1) {
        due("compare(" + a + ", " + b + ", 0)", byRule0, x.compare(a, b, 0));
        due("compare(" + a + ", " + b + ", 1)", byRule1, x.compare(a, b, 1));
        due("compare(" + b + ", " + a + ", 0)", -byRule0, x.compare(b, a, 0));
        due("compare(" + b + ", " + a + ", 1)", -byRule1, x.compare(b, a, 1));
    }

    private void compareSame() {
        BooksMoved x = Tapes.withMarks("9", "10", "010", "10a", "10aa", "10b", "10.0", "9999", "9.9999zzz", "10");
        both(x, 0, 1, -1, -1);
        both(x, 1, 2, -1, -1);
        both(x, 2, 9, -1, -1);
        both(x, 2, 3, -1, -1);
        both(x, 3, 4, -1, -1);
        both(x, 4, 5, -1, -1);
        both(x, 5, 6, -1, -1);
        both(x, 9, 3, -1, -1);
        both(x, 6, 7, -1, -1);
        both(x, 0, 8, -1, -1);
        both(x, 8, 1, -1, -1);
        both(x, 4, 4, 0, 0);
        BooksMoved y = Tapes.withMarks("1ab", "1az", "1azz", "1b", "1ba", "1zzz", "1.0");
        for (int i = 0; i < 6; i++) {
            both(y, i, i + 1, -1, -1);
        }
    }

    private void compareBehind() {
        BooksMoved x = Tapes.withMarks("1.2", "1.10", "1.02", "1.20", "1.0", "1.00", "1", "1.2a", "1.9999", "1.0000");
        both(x, 0, 1, 1, -1);
        both(x, 0, 2, 1, -1);
        both(x, 0, 3, -1, -1);
        both(x, 1, 2, 1, 1);
        both(x, 4, 5, -1, -1);
        both(x, 6, 4, -1, -1);
        both(x, 6, 9, -1, -1);
        both(x, 5, 9, -1, -1);
        both(x, 9, 2, -1, -1);
        both(x, 0, 7, -1, -1);
        both(x, 7, 2, 1, -1);
        both(x, 7, 3, -1, -1);
        both(x, 3, 8, -1, -1);
        BooksMoved y = Tapes.withMarks("1.0000", "1.0999", "1.1", "1.19", "1.2", "1.0000");
        both(y, 0, 1, -1, -1);
        both(y, 0, 2, -1, -1);
        both(y, 1, 2, -1, 1);
        both(y, 2, 3, -1, -1);
        both(y, 3, 4, -1, 1);
        both(y, 0, 5, -1, -1);
        BooksMoved z = Tapes.withMarks("1.1", "1.0000");
        both(z, 1, 0, -1, -1);
    }

    private void compareOthers() {
        BooksMoved x = Tapes.withMarks("1", "2");
        int[][] others = {
            {-1, 0, 0}, {0, -1, 0}, {2, 0, 0}, {0, 2, 0}, {0, 1, -1}, {0, 1, 2}, {2, 2, 0}, {0, 0, 2},
            {Integer.MIN_VALUE, 0, 0}, {0, Integer.MAX_VALUE, 1}};
        for (int[] o : others) {
            due("compare of others", -2, x.compare(o[0], o[1], o[2]));
        }
        due("compare(1, 0, 1)", 1, x.compare(1, 0, 1));
    }

    private void ordered() {
        BooksMoved x = Tapes.withMarks("2", "1.10", "1.9", "1", "2", "0500", "1.9a");
        int[] byRule0 = {3, 1, 2, 6, 0, 4, 5};
        int[] byRule1 = {3, 2, 6, 1, 0, 4, 5};
        for (int i = 0; i < 7; i++) {
            due("ordered(" + i + ", 0)", byRule0[i], x.ordered(i, 0));
            due("ordered(" + i + ", 1)", byRule1[i], x.ordered(i, 1));
        }
        due("ordered(7, 0)", -1, x.ordered(7, 0));
        due("ordered(-1, 0)", -1, x.ordered(-1, 0));
        due("ordered(0, 2)", -1, x.ordered(0, 2));
        due("ordered(0, -1)", -1, x.ordered(0, -1));
        x.rule(1);
        due("ordered(1, 0) whatever THE RULE", 1, x.ordered(1, 0));
        Tapes.book(x, "0");
        due("ordered(0, 0) of one more", 7, x.ordered(0, 0));
    }

    private void quarrels() {
        BooksMoved x = Tapes.withMarks("1.2", "1.10");
        due("quarrels()", 1, x.quarrels());
        Tapes.book(x, "2.2");
        due("quarrels() of one by itself", 1, x.quarrels());
        Tapes.book(x, "1.02");
        due("quarrels() with 1.02", 2, x.quarrels());
        Tapes.book(x, "1.2");
        due("quarrels() with another 1.2", 4, x.quarrels());
        Tapes.book(x, "x");
        due("quarrels() with a wrong one", 4, x.quarrels());
        x.rule(1);
        due("quarrels() by the other RULE", 4, x.quarrels());
    }
}
