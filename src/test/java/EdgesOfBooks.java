import java.util.Arrays;
import java.util.Collections;
import java.util.List;

/** Promises 1 to 9: each sentence of the document that names a boundary case has a test of its own here. */
final class EdgesOfBooks {
    private final Checks checks;

    EdgesOfBooks(Checks checks) {
        this.checks = checks;
    }

    void all() {
        checks.run("promise 1, edge: two new objects share nothing", this::twoObjects);
        checks.run("promise 1, edge: the 512th call", this::lastCall);
        checks.run("promise 2, edge: none come if there would be more than 20", this::feedRefused);
        checks.run("promise 2, edge: words with their highest bit set", this::feedHighestBits);
        checks.run("promise 3, edge: the first n bytes alone", this::endKeepsTheFirst);
        checks.run("promise 3, edge: nothing is done if it has not so many", this::endOfTooMany);
        checks.run("promise 3, edge: nothing is done if n is below 0", this::endBelowNone);
        checks.run("promise 4, edge: HOUSE 0 .. 4", this::houses);
        checks.run("promise 4, edge: THICK 1 .. 200", this::thick);
        checks.run("promise 4, edge: TALL 1 .. 100", this::tall);
        checks.run("promise 4, edge: the tape is empty then", this::tapeIsEmptyThen);
        checks.run("promise 4, edge: there are 60", this::thereAreSixty);
        checks.run("promise 4, edge: others with a MARK that is WRONG", this::othersWithWrongMark);
        checks.run("promise 5, edge: the first byte that can't stand there", this::everyByte);
        checks.run("promise 5, edge: its length, if more must come", this::moreMustCome);
        checks.run("promise 5, edge: a MARK of twenty bytes", this::twentyBytes);
        checks.run("promise 5, edge: it wasn't, or none was read", this::wrongOfNone);
        checks.run("promise 6, edge: 0 or 1, at first 0", this::rules);
        checks.run("promise 7, edge: NUMBERS at their ends", this::numbers);
        checks.run("promise 7, edge: no BEHIND is ahead of any", this::noBehind);
        checks.run("promise 7, edge: a row of digits that ends is ahead by RULE 0", this::rowOfDigitsEnds);
        checks.run("promise 7, edge: of like numbers fewer digits are ahead by RULE 1", this::fewerDigits);
        checks.run("promise 7, edge: LETTERS that end (or none) are ahead", this::lettersEnd);
        checks.run("promise 7, edge: MARKS that are alike", this::alike);
        checks.run("promise 7, edge: -2 for others", this::compareOthers);
        checks.run("promise 8, edge: the first and the last", this::orderedEnds);
        checks.run("promise 8, edge: sixty from behind", this::orderedSixty);
        checks.run("promise 9, edge: none, and as many as can be", this::quarrelsAtTheirEnds);
    }

    private void due(String call, Object want, Object got) {
        checks.due(call, want, got);
    }

    private void twoObjects() {
        BooksMoved x = new BooksMoved();
        BooksMoved y = new BooksMoved();
        Tapes.book(x, "7");
        Tapes.book(x, "6");
        Tapes.book(x, "x");
        x.shelf(50);
        x.rule(1);
        x.sizes(0, 9);
        x.sizes(-1, 31);
        x.sizes(-2, 9);
        x.way(0, 3);
        x.row();
        x.feed(1, 2, 3, 4, 5);
        for (int what = 0; what <= 25; what++) {
            due("about(" + what + ") of the other", new BooksMoved().about(what), y.about(what));
        }
        due("wrong() of the other", -1, y.wrong());
        due("row() of the other", 0, y.row());
        due("counts(2) of the other", 0, y.counts(2));
        Tapes.book(y, "1");
        due("ordered(0, 0) of the other", 0, y.ordered(0, 0));
        due("ordered(0, 0) of the first", 1, x.ordered(0, 0));
        due("at(0) of the first", 1, x.at(0));
        due("crate(0, 4) of the first", 3, x.crate(0, 4));
        due("crate(0, 4) of the other", 10, y.crate(0, 4));
    }

    private void lastCall() {
        BooksMoved x = new BooksMoved();
        for (int call = 1; call < 512; call++) {
            due("call " + call, true, x.rule(call % 2));
        }
        due("the 512th call", 1, x.about(2));
    }

    private void feedRefused() {
        BooksMoved x = new BooksMoved();
        x.feed(Tapes.word("1.2.", 0), 0, 0, 0, 0);
        for (int bytes = 20; bytes >= 1; bytes--) {
            due("end(" + bytes + ")", bytes, x.end(bytes));
            due("feed of a tape of " + bytes, -1, x.feed(-1, -1, -1, -1, -1));
            due("about(6)", bytes, x.about(6));
            if (bytes == 4) {
                due("book of the old bytes", -1, x.book(0, 1, 1));
                due("wrong() of the old bytes", 4 - 1, x.wrong());
                x.feed(Tapes.word("1.2.", 0), 0, 0, 0, 0);
                x.end(4);
            }
        }
        due("book of the first byte", 0, x.book(0, 1, 1));
        due("feed of the tape that was read", 20, x.feed(-1, -1, -1, -1, -1));
    }

    private void feedHighestBits() {
        int[] places = {0, 1, 2, 3};
        for (int place : places) {
            BooksMoved x = new BooksMoved();
            int word = Tapes.word("1234", 0) | 0x80 << 24 - 8 * place;
            due("feed", 20, x.feed(word, 0, 0, 0, 0));
            x.end(4);
            x.book(0, 1, 1);
            due("wrong() of a highest bit at " + place, place, x.wrong());
        }
        BooksMoved x = new BooksMoved();
        due("feed of least and most", 20, x.feed(Integer.MIN_VALUE, Integer.MAX_VALUE, -1, Integer.MIN_VALUE, -1));
        due("about(6)", 20, x.about(6));
        due("book", -1, x.book(0, 1, 1));
        due("wrong()", 0, x.wrong());
    }

    private void endKeepsTheFirst() {
        String text = "1234.5678abc";
        int[] wrongAt = {0, -1, -1, -1, -1, 5, -1, -1, -1, -1, -1, -1, -1, 12, 12, 12, 12, 12, 12, 12, 12};
        BooksMoved x = new BooksMoved();
        for (int n = 0; n <= 20; n++) {
            x.feed(Tapes.word(text, 0), Tapes.word(text, 1), Tapes.word(text, 2), 0, 0);
            due("end(" + n + ")", n, x.end(n));
            due("about(6) of " + n, n, x.about(6));
            due("book of " + n, wrongAt[n] < 0, x.book(0, 1, 1) >= 0);
            due("wrong() of " + n, wrongAt[n], x.wrong());
        }
    }

    private void endOfTooMany() {
        BooksMoved x = new BooksMoved();
        due("end(0) of an empty tape", 0, x.end(0));
        due("end(1) of an empty tape", -1, x.end(1));
        x.feed(Tapes.word("123.", 0), 0, 0, 0, 0);
        due("end(20) of twenty", 20, x.end(20));
        due("end(21) of twenty", -1, x.end(21));
        for (int n = 19; n >= 0; n--) {
            due("end(" + n + ")", n, x.end(n));
            due("end of one more than " + n, -1, x.end(n + 1));
            due("end(most)", -1, x.end(Integer.MAX_VALUE));
            due("about(6) of " + n, n, x.about(6));
            due("end of as many", n, x.end(n));
        }
    }

    private void endBelowNone() {
        BooksMoved x = new BooksMoved();
        due("end(-1) of an empty tape", -1, x.end(-1));
        Tapes.put(x, "77");
        due("end(-1)", -1, x.end(-1));
        due("end(least)", -1, x.end(Integer.MIN_VALUE));
        due("about(6)", 2, x.about(6));
        due("book", 0, x.book(0, 1, 1));
        due("wrong()", -1, x.wrong());
    }

    /** A book of these is refused, and the tape stays. */
    private void refused(BooksMoved x, int house, int thick, int tall) {
        int books = x.about(0);
        Tapes.put(x, "12");
        due("book(" + house + ", " + thick + ", " + tall + ")", -1, x.book(house, thick, tall));
        due("about(6)", 2, x.about(6));
        due("about(0)", books, x.about(0));
    }

    private void taken(BooksMoved x, int house, int thick, int tall) {
        int books = x.about(0);
        due("book(" + house + ", " + thick + ", " + tall + ")", books, Tapes.book(x, "12", house, thick, tall));
        due("about(6)", 0, x.about(6));
        due("about(0)", books + 1, x.about(0));
    }

    private void houses() {
        BooksMoved x = new BooksMoved();
        refused(x, -1, 1, 1);
        refused(x, 5, 1, 1);
        refused(x, Integer.MIN_VALUE, 1, 1);
        refused(x, Integer.MAX_VALUE, 1, 1);
        for (int house = 0; house <= 4; house++) {
            taken(x, house, 1, 1);
            due("crate(" + house + ", 2)", house, x.crate(house, 2));
        }
    }

    private void thick() {
        BooksMoved x = new BooksMoved();
        x.shelf(2000);
        refused(x, 0, 0, 1);
        refused(x, 0, 201, 1);
        refused(x, 0, -1, 1);
        refused(x, 0, Integer.MIN_VALUE, 1);
        refused(x, 0, Integer.MAX_VALUE, 1);
        taken(x, 0, 1, 1);
        due("shelfOf(0, 1) of 1", 199900, x.shelfOf(0, 1));
        taken(x, 0, 200, 1);
        due("shelfOf(0, 1) of 1 and 200", 179900, x.shelfOf(0, 1));
    }

    private void tall() {
        BooksMoved x = new BooksMoved();
        refused(x, 0, 1, 0);
        refused(x, 0, 1, 101);
        refused(x, 0, 1, -1);
        refused(x, 0, 1, Integer.MIN_VALUE);
        refused(x, 0, 1, Integer.MAX_VALUE);
        taken(x, 0, 1, 1);
        taken(x, 0, 1, 100);
        x.sizes(-1, 1);
        due("counts(0) above 1", 1, x.counts(0));
        x.sizes(-1, 99);
        due("counts(0) above 99", 1, x.counts(0));
        x.sizes(-1, 100);
        due("counts(0) above 100", 0, x.counts(0));
    }

    private void tapeIsEmptyThen() {
        BooksMoved x = new BooksMoved();
        Tapes.put(x, "5");
        due("book of 5", 0, x.book(0, 1, 1));
        due("about(6) of 5", 0, x.about(6));
        due("book of the same again", -1, x.book(0, 1, 1));
        due("wrong() of an empty tape", 0, x.wrong());
        Tapes.put(x, "5x5");
        due("book of 5x5", -1, x.book(0, 1, 1));
        due("about(6) of 5x5", 0, x.about(6));
        due("feed at once", 20, x.feed(0, 0, 0, 0, 0));
    }

    private void thereAreSixty() {
        BooksMoved x = new BooksMoved();
        for (int i = 0; i < 60; i++) {
            due("book " + i, i, Tapes.book(x, "7"));
        }
        // The first MARK would be right, the other WRONG: neither is read.
        for (String text : new String[] {"7", "7.x", ""}) {
            Tapes.put(x, text);
            due("book 60 of '" + text + "'", -1, x.book(0, 1, 1));
            due("about(6)", text.length(), x.about(6));
            due("wrong()", -1, x.wrong());
            due("about(0)", 60, x.about(0));
        }
        due("compare(58, 59, 0)", -1, x.compare(58, 59, 0));
        due("compare(59, 60, 0)", -2, x.compare(59, 60, 0));
    }

    private void othersWithWrongMark() {
        BooksMoved x = new BooksMoved();
        Tapes.put(x, "1.x");
        due("book(5, 1, 1)", -1, x.book(5, 1, 1));
        due("about(6)", 3, x.about(6));
        due("wrong(), none was read", -1, x.wrong());
        due("book(0, 1, 1)", -1, x.book(0, 1, 1));
        due("about(6) of the one that was read", 0, x.about(6));
        due("wrong() of the one that was read", 2, x.wrong());
        Tapes.put(x, "8");
        due("book(0, 0, 1)", -1, x.book(0, 0, 1));
        due("wrong() of the latest that was read", 2, x.wrong());
    }

    private static boolean isDigit(int sign) {
        return sign >= '0' && sign <= '9';
    }

    private static boolean isLetter(int sign) {
        return sign >= 'a' && sign <= 'z';
    }

    /** Each byte behind each beginning: digits, the dot and letters can stand there or not. */
    private void everyByte() {
        String[] beginnings = {
            "", "1", "12", "123", "1234", "1.", "1.2", "1.23", "1.234", "1234.5678", "1a", "1ab", "1abc",
            "1.2a", "1.2ab", "1.2abc", "1234.", "1234abc", "0", "0.0"};
        String[] canStand = {
            "d", "d.l", "d.l", "d.l", ".l", "d", "dl", "dl", "dl", "l", "l", "l", "",
            "l", "l", "", "d", "", "d.l", "dl"};
        for (int i = 0; i < beginnings.length; i++) {
            for (int from = 0; from < 256; from += 64) {
                bytesBehind(beginnings[i], canStand[i], from);
            }
        }
    }

    private void bytesBehind(String beginning, String canStand, int from) {
        BooksMoved x = new BooksMoved();
        for (int sign = from; sign < from + 64; sign++) {
            String text = beginning + (char) sign;
            int want = beginning.length();
            if (isDigit(sign) && canStand.indexOf('d') >= 0 || isLetter(sign) && canStand.indexOf('l') >= 0) {
                want = -1;
            } else if (sign == '.' && canStand.indexOf('.') >= 0) {
                // The dot can stand there, but a digit must come.
                want = text.length();
            }
            Tapes.put(x, text);
            due("book of " + beginning + " and byte " + sign, want == -1, x.book(0, 1, 1) >= 0);
            due("wrong() of " + beginning + " and byte " + sign, want, x.wrong());
        }
    }

    private void moreMustCome() {
        String[] marks = {"", "1.", "12.", "123.", "1234."};
        BooksMoved x = new BooksMoved();
        for (String mark : marks) {
            due("book of " + mark, -1, Tapes.book(x, mark));
            due("wrong() of " + mark, mark.length(), x.wrong());
        }
    }

    private void twentyBytes() {
        String[] marks = {
            "11111111111111111111", "aaaaaaaaaaaaaaaaaaaa", "1.111111111111111111", "1aaaaaaaaaaaaaaaaaaa",
            "1234.5678abcdefghijk", "1234.5678abc00000000", "1234.56781bcdefghijk"};
        int[] wrongAt = {4, 0, 6, 4, 12, 12, 9};
        BooksMoved x = new BooksMoved();
        for (int i = 0; i < marks.length; i++) {
            due("book of " + marks[i], -1, Tapes.book(x, marks[i]));
            due("wrong() of " + marks[i], wrongAt[i], x.wrong());
            due("about(6) of " + marks[i], 0, x.about(6));
        }
        due("book of the longest that can be", 0, Tapes.book(x, "9999.9999zzz"));
    }

    private void wrongOfNone() {
        BooksMoved x = new BooksMoved();
        due("wrong(), none was read", -1, x.wrong());
        Tapes.put(x, "z");
        due("wrong(), none was read yet", -1, x.wrong());
        x.book(0, 1, 1);
        due("wrong() at the first byte", 0, x.wrong());
        Tapes.put(x, "1");
        due("wrong(), before the next is read", 0, x.wrong());
        x.book(0, 1, 1);
        due("wrong(), it wasn't", -1, x.wrong());
        x.book(0, 1, 1);
        due("wrong() of nothing", 0, x.wrong());
    }

    private void rules() {
        BooksMoved x = new BooksMoved();
        due("about(2) at first", 0, x.about(2));
        int[] others = {-1, 2, 3, Integer.MIN_VALUE, Integer.MAX_VALUE};
        for (int rule = 0; rule <= 1; rule++) {
            due("rule(" + rule + ")", true, x.rule(rule));
            due("rule(" + rule + ") again", true, x.rule(rule));
            for (int other : others) {
                due("rule(" + other + ")", false, x.rule(other));
                due("about(2) behind rule(" + other + ")", rule, x.about(2));
            }
        }
    }

    /** By this rule, or (rule below 0) by both, each MARK is ahead of all behind it, and whatever the BOOKS' numbers. */
    private void ascending(int rule, String... marks) {
        List<String> turned = Arrays.asList(marks.clone());
        Collections.reverse(turned);
        compares(rule, 1, marks);
        compares(rule, -1, turned.toArray(new String[0]));
    }

    /** BOOKS with these MARKS are in the order of their numbers (sign 1), or in the opposite one (sign -1). */
    private void compares(int rule, int sign, String... marks) {
        BooksMoved x = Tapes.withMarks(marks);
        for (int a = 0; a < marks.length; a++) {
            for (int b = 0; b < marks.length; b++) {
                int want = sign * Integer.compare(a, b);
                if (rule != 1) {
                    due("compare of " + marks[a] + " with " + marks[b] + " by 0", want, x.compare(a, b, 0));
                }
                if (rule != 0) {
                    due("compare of " + marks[a] + " with " + marks[b] + " by 1", want, x.compare(a, b, 1));
                }
            }
        }
    }

    private void numbers() {
        ascending(-1, "0", "0001", "2", "09", "010", "99", "100", "999", "1000", "9998", "9999");
        // A NUMBER counts before all that is behind it.
        ascending(-1, "0.9999zzz", "1", "1.0", "1.9999zzz", "2", "9998.9999zzz", "9999");
    }

    private void noBehind() {
        ascending(-1, "1", "1.0", "1.9");
        ascending(-1, "1", "1.0000", "1.9999");
        ascending(-1, "1zzz", "1.0", "1.0a");
        BooksMoved x = Tapes.withMarks("1.0", "1.0000", "1zzz", "1");
        for (int rule = 0; rule <= 1; rule++) {
            due("compare of 1 with 1.0 by " + rule, -1, x.compare(3, 0, rule));
            due("compare of 1 with 1.0000 by " + rule, -1, x.compare(3, 1, rule));
            due("compare of 1zzz with 1.0 by " + rule, -1, x.compare(2, 0, rule));
            due("compare of 1.0000 with 1zzz by " + rule, 1, x.compare(1, 2, rule));
        }
    }

    private void rowOfDigitsEnds() {
        ascending(0, "1.0", "1.00", "1.000", "1.0000", "1.0001", "1.001", "1.01", "1.09", "1.0999", "1.1", "1.10",
                "1.1000", "1.1001", "1.19", "1.2", "1.9", "1.99", "1.999", "1.9998", "1.9999");
        ascending(0, "1.1zzz", "1.10", "1.10a", "1.100");
    }

    private void fewerDigits() {
        ascending(1, "1.0", "1.00", "1.000", "1.0000", "1.1", "1.01", "1.001", "1.0001", "1.2", "1.02", "1.9", "1.0009",
                "1.10", "1.010", "1.0010", "1.11", "1.99", "1.0099", "1.100", "1.999", "1.0999", "1.1000", "1.9999");
        ascending(1, "1.1zzz", "1.01", "1.01a", "1.001", "1.2");
    }

    private void lettersEnd() {
        ascending(-1, "1", "1a", "1aa", "1aaa", "1aab", "1aaz", "1ab", "1az", "1azz", "1b", "1z", "1za", "1zz", "1zzz");
        ascending(-1, "1.5", "1.5a", "1.5aa", "1.5aaa", "1.5az", "1.5b", "1.5z", "1.5zzz", "1.6");
    }

    private void alike() {
        compares(-1, 1, "0", "0", "00", "000", "0000", "0");
        compares(-1, 1, "12.5ab", "012.5ab", "12.5ab", "0012.5ab");
        compares(-1, 1, "9999.9999zzz", "9999.9999zzz");
        BooksMoved x = Tapes.withMarks("1", "01", "1");
        due("quarrels() of ones alike", 0, x.quarrels());
        for (int i = 0; i < 3; i++) {
            due("ordered(" + i + ", 0)", i, x.ordered(i, 0));
            due("ordered(" + i + ", 1)", i, x.ordered(i, 1));
        }
    }

    private void compareOthers() {
        due("compare(0, 0, 0) of no BOOKS", -2, new BooksMoved().compare(0, 0, 0));
        BooksMoved x = Tapes.withMarks("1");
        due("compare(0, 0, 0)", 0, x.compare(0, 0, 0));
        due("compare(0, 0, 1)", 0, x.compare(0, 0, 1));
        int[] others = {-1, 1, 60, Integer.MIN_VALUE, Integer.MAX_VALUE};
        for (int other : others) {
            due("compare(" + other + ", 0, 0)", -2, x.compare(other, 0, 0));
            due("compare(0, " + other + ", 0)", -2, x.compare(0, other, 0));
            due("compare(" + other + ", " + other + ", 1)", -2, x.compare(other, other, 1));
            if (other != 1) {
                due("compare(0, 0, " + other + ")", -2, x.compare(0, 0, other));
            }
        }
        due("compare(0, 0, 2)", -2, x.compare(0, 0, 2));
    }

    private void orderedEnds() {
        due("ordered(0, 0) of no BOOKS", -1, new BooksMoved().ordered(0, 0));
        BooksMoved x = Tapes.withMarks("5", "4");
        int[] others = {-1, 2, 60, Integer.MIN_VALUE, Integer.MAX_VALUE};
        for (int rule = 0; rule <= 1; rule++) {
            due("the first by " + rule, 1, x.ordered(0, rule));
            due("the last by " + rule, 0, x.ordered(1, rule));
            for (int other : others) {
                due("ordered(" + other + ", " + rule + ")", -1, x.ordered(other, rule));
                due("ordered(" + rule + ", " + other + ")", -1, x.ordered(rule, other));
            }
        }
    }

    private void orderedSixty() {
        BooksMoved x = new BooksMoved();
        for (int i = 0; i < 60; i++) {
            Tapes.book(x, Integer.toString(9999 - i));
        }
        for (int i = 0; i < 60; i++) {
            due("ordered(" + i + ", 0)", 59 - i, x.ordered(i, 0));
            due("ordered(" + i + ", 1)", 59 - i, x.ordered(i, 1));
        }
        due("ordered(60, 0)", -1, x.ordered(60, 0));
    }

    private void quarrelsAtTheirEnds() {
        BooksMoved x = new BooksMoved();
        due("quarrels() of no BOOKS", 0, x.quarrels());
        Tapes.book(x, "1.2");
        due("quarrels() of one", 0, x.quarrels());
        for (int i = 1; i < 30; i++) {
            Tapes.book(x, "1.2");
        }
        due("quarrels() of ones alike", 0, x.quarrels());
        for (int i = 1; i <= 30; i++) {
            Tapes.book(x, "1.10");
            due("quarrels() with " + i + " others", 30 * i, x.quarrels());
        }
    }
}
