/**
 * A library that moves over the street. The words in capitals (MARK, THE ORDER, LAID, THE MEETING ..)
 * are those of the document's terms.
 */
public final class BooksMoved {
    public static final int NONE = -1;

    private static final int UNLIKE = -2;
    private static final int MOST_BYTES = 20;
    private static final int MOST_BOOKS = 60;
    private static final int MOST_SHELVES = 16;
    private static final int MOST_LONG = 2000;
    private static final int MOST_THICK = 200;
    private static final int MOST_TALL = 100;
    private static final int MOST_GROWTH = 100;
    private static final int MOST_HOLD = 1000;
    private static final int MOST_WAY = 100;
    private static final int LAST_MINUTE = 100000;
    private static final int HOUSES = 5;
    private static final int THOUSANDS = 10;
    private static final int RULES = 2;
    private static final int SIZE_OF_LIMIT = -1;
    private static final int SIZE_OF_CRATES = -2;
    private static final int GROWTH_FROM = 10;
    private static final int WAY_FROM = 20;

    private static final int MOST_DIGITS = 4;
    private static final int MOST_LETTERS = 3;
    // Above every key of a BEHIND (by digits below 11 * 11 * 11 * 11, by numbers up to 9999 * 5 + 4).
    private static final long BEHIND_SPAN = 50000L;
    // Above every key of LETTERS: 27 * 27 * 27.
    private static final long LETTERS_SPAN = 19683L;

    private final Tape tape;
    private final Mark mark;
    private final Books books;
    private final Shelves shelves;
    private final Crates crates;
    private final Row standing;
    private int theRule;
    // What follows from the state is worked out when it is asked for, and kept until the state changes.
    private boolean plansHold;
    private boolean outsHold;

    public BooksMoved() {
        tape = new Tape();
        mark = new Mark();
        books = new Books();
        shelves = new Shelves();
        crates = new Crates();
        standing = new Row();
        theRule = 0;
        plansHold = false;
        outsHold = false;
    }

    public int feed(int a, int b, int c, int d, int e) {
        if (tape.count > 0) {
            return NONE;
        }
        tape.append(a);
        tape.append(b);
        tape.append(c);
        tape.append(d);
        tape.append(e);
        return tape.count;
    }

    public int end(int n) {
        if (!within(n, 0, tape.count)) {
            return NONE;
        }
        tape.count = n;
        return n;
    }

    public int book(int house, int thick, int tall) {
        if (books.count >= MOST_BOOKS || !within(house, 0, HOUSES - 1)
                || !within(thick, 1, MOST_THICK) || !within(tall, 1, MOST_TALL)) {
            return NONE;
        }
        mark.read(tape);
        tape.count = 0;
        if (mark.wrongAt != NONE) {
            return NONE;
        }
        forgetWhatFollows();
        return books.add(mark, house, thick, tall);
    }

    public int wrong() {
        return mark.wrongAt;
    }

    public boolean rule(int r) {
        if (!isRule(r)) {
            return false;
        }
        theRule = r;
        forgetWhatFollows();
        return true;
    }

    public int compare(int a, int b, int rule) {
        if (!books.has(a) || !books.has(b) || !isRule(rule)) {
            return UNLIKE;
        }
        return books.sign(a, b, rule);
    }

    public int ordered(int i, int rule) {
        if (!books.has(i) || !isRule(rule)) {
            return NONE;
        }
        return books.order[rule][i];
    }

    public int quarrels() {
        return books.quarrelling;
    }

    public int shelf(int length) {
        if (shelves.count >= MOST_SHELVES || !within(length, 1, MOST_LONG)) {
            return NONE;
        }
        forgetWhatFollows();
        return shelves.add(length);
    }

    public boolean sizes(int thousands, int v) {
        if (thousands == SIZE_OF_LIMIT && within(v, 1, MOST_TALL)) {
            shelves.limit = v;
        } else if (thousands == SIZE_OF_CRATES && within(v, 1, MOST_HOLD)) {
            crates.hold = v;
        } else if (within(thousands, 0, THOUSANDS - 1) && within(v, 0, MOST_GROWTH)) {
            shelves.growth[thousands] = v;
        } else {
            return false;
        }
        forgetWhatFollows();
        return true;
    }

    public int laid(int book, int what) {
        if (!books.has(book)) {
            return NONE;
        }
        makePlans();
        switch (what) {
            case 0:
                return shelves.shelfOfBook[book];
            case 1:
                return shelves.placeOfBook[book];
            default:
                return NONE;
        }
    }

    public int shelfOf(int shelf, int what) {
        if (!within(shelf, 0, shelves.count - 1)) {
            return NONE;
        }
        makePlans();
        switch (what) {
            case 0:
                return shelves.booksOn[shelf];
            case 1:
                return shelves.room(shelf) - shelves.needed[shelf];
            default:
                return NONE;
        }
    }

    public int counts(int what) {
        makePlans();
        switch (what) {
            case 0:
                return shelves.outsize;
            case 1:
                return shelves.notLaid;
            case 2:
                return crates.count;
            default:
                return NONE;
        }
    }

    public boolean way(int house, int minutes) {
        if (!within(house, 0, HOUSES - 1) || !within(minutes, 1, MOST_WAY)) {
            return false;
        }
        crates.wayOfHouse[house] = minutes;
        forgetWhatFollows();
        return true;
    }

    public int crate(int c, int what) {
        makePlans();
        if (!within(c, 0, crates.count - 1)) {
            return NONE;
        }
        switch (what) {
            case 0:
                return crates.firstBook[c];
            case 1:
                return crates.booksIn[c];
            case 2:
                return crates.house[c];
            case 3:
                return crates.begins[c];
            case 4:
                return crates.ends[c];
            case 5:
                return c < crates.ofFirstTeam ? 0 : 1;
            default:
                return NONE;
        }
    }

    public int meeting(int what) {
        makePlans();
        switch (what) {
            case 0:
                return crates.ofFirstTeam;
            case 1:
                return crates.bothEnded;
            default:
                return NONE;
        }
    }

    public int where(int book, int minute, int what) {
        if (!books.has(book) || !within(minute, 0, LAST_MINUTE)) {
            return NONE;
        }
        makePlans();
        switch (what) {
            case 0:
                return crates.stageOf(book, minute);
            case 1:
                return crates.readerHas(book, minute);
            case 2:
                return crates.crateOfBook[book];
            default:
                return NONE;
        }
    }

    public int row() {
        makePlans();
        standing.fill(books.order[theRule], books.count, shelves.shelfOfBook);
        outsHold = false;
        return standing.count;
    }

    public int at(int place) {
        return standing.has(place) ? standing.book[place] : NONE;
    }

    public boolean misplace(int from, int to) {
        // 'another place': a BOOK put back where it stood is not misplaced.
        if (!standing.has(from) || !standing.has(to) || from == to) {
            return false;
        }
        standing.carry(from, to);
        outsHold = false;
        return true;
    }

    public int takenOut() {
        lookThrough();
        return standing.outs;
    }

    public int isOut(int place) {
        if (!standing.has(place)) {
            return NONE;
        }
        lookThrough();
        return standing.out[place] ? 1 : 0;
    }

    public int drawn(int n, int seed, int what) {
        int places = standing.count - 1;
        if (!within(n, 1, places) || !within(what, 0, 2)) {
            return NONE;
        }
        int behind = standing.draw(n, seed, books, theRule);
        // Of the places that were not drawn each may be such a one or not.
        return what == 2 ? behind + places - n : behind;
    }

    public int about(int what) {
        if (within(what, GROWTH_FROM, GROWTH_FROM + THOUSANDS - 1)) {
            return shelves.growth[what - GROWTH_FROM];
        }
        if (within(what, WAY_FROM, WAY_FROM + HOUSES - 1)) {
            return crates.wayOfHouse[what - WAY_FROM];
        }
        switch (what) {
            case 0:
                return books.count;
            case 1:
                return shelves.count;
            case 2:
                return theRule;
            case 3:
                return shelves.limit;
            case 4:
                return crates.hold;
            case 5:
                return standing.count;
            case 6:
                return tape.count;
            default:
                return NONE;
        }
    }

    private static boolean within(int v, int least, int most) {
        return v >= least && v <= most;
    }

    private static boolean isRule(int r) {
        return within(r, 0, RULES - 1);
    }

    private void forgetWhatFollows() {
        plansHold = false;
        outsHold = false;
    }

    private void makePlans() {
        if (!plansHold) {
            shelves.lay(books, theRule);
            crates.pack(books, theRule);
            crates.meet();
            plansHold = true;
        }
    }

    private void lookThrough() {
        if (!outsHold) {
            standing.findOuts(books, theRule);
            outsHold = true;
        }
    }

    /** The bytes of the next MARK. */
    private static final class Tape {
        final int[] bytes = new int[MOST_BYTES];
        int count = 0;

        void append(int word) {
            for (int shift = 24; shift >= 0 && count < MOST_BYTES; shift -= 8) {
                bytes[count] = (word >>> shift) & 255;
                count++;
            }
        }

        int byteAt(int i) {
            return within(i, 0, count - 1) ? bytes[i] : NONE;
        }

        boolean digitAt(int i) {
            return within(byteAt(i), '0', '9');
        }

        boolean letterAt(int i) {
            return within(byteAt(i), 'a', 'z');
        }
    }

    /** The MARK that was read last. */
    private static final class Mark {
        int wrongAt = NONE;
        int number;
        int behind;
        int behindDigits;
        int behindFromLeft;
        int letters;

        void read(Tape tape) {
            behind = 0;
            behindDigits = 0;
            behindFromLeft = 0;
            int i = pastDigits(tape, 0);
            if (i == 0) {
                wrongAt = 0;
                return;
            }
            number = valueOf(tape, 0, i);
            if (tape.byteAt(i) == '.') {
                int from = i + 1;
                i = pastDigits(tape, from);
                if (i == from) {
                    wrongAt = from;
                    return;
                }
                readBehind(tape, from, i);
            }
            int past = pastLetters(tape, i);
            readLetters(tape, i, past);
            wrongAt = past < tape.count ? past : NONE;
        }

        /** MARKS stand by a RULE as these keys do, and are alike if these are. */
        long keyBy(int rule) {
            // BEHIND by numbers: with its digits as the last sign 0.5 is ahead of 0.05, and none (0) ahead of 0.0.
            int key = rule == 0 ? behindFromLeft : behind * (MOST_DIGITS + 1) + behindDigits;
            return (number * BEHIND_SPAN + key) * LETTERS_SPAN + letters;
        }

        private void readBehind(Tape tape, int from, int past) {
            behind = valueOf(tape, from, past);
            behindDigits = past - from;
            // In elevens, so that a row that ends (0) is ahead of one that goes on with the digit 0 (1).
            for (int i = from; i < from + MOST_DIGITS; i++) {
                behindFromLeft = behindFromLeft * 11 + (i < past ? tape.byteAt(i) - '0' + 1 : 0);
            }
        }

        private void readLetters(Tape tape, int from, int past) {
            letters = 0;
            for (int i = from; i < from + MOST_LETTERS; i++) {
                letters = letters * 27 + (i < past ? tape.byteAt(i) - 'a' + 1 : 0);
            }
        }

        private static int pastDigits(Tape tape, int from) {
            int i = from;
            while (i < from + MOST_DIGITS && tape.digitAt(i)) {
                i++;
            }
            return i;
        }

        private static int pastLetters(Tape tape, int from) {
            int i = from;
            while (i < from + MOST_LETTERS && tape.letterAt(i)) {
                i++;
            }
            return i;
        }

        private static int valueOf(Tape tape, int from, int past) {
            int value = 0;
            for (int i = from; i < past; i++) {
                value = value * 10 + tape.byteAt(i) - '0';
            }
            return value;
        }
    }

    /** All BOOKS, and THE ORDER by each RULE, kept as they come. */
    private static final class Books {
        final long[][] key = new long[RULES][MOST_BOOKS];
        final int[][] order = new int[RULES][MOST_BOOKS];
        final int[] house = new int[MOST_BOOKS];
        final int[] thick = new int[MOST_BOOKS];
        final int[] tall = new int[MOST_BOOKS];
        final int[] thousand = new int[MOST_BOOKS];
        int count = 0;
        int quarrelling = 0;

        boolean has(int book) {
            return within(book, 0, count - 1);
        }

        int add(Mark mark, int itsHouse, int itsThick, int itsTall) {
            if (count >= MOST_BOOKS) {
                return NONE;
            }
            int book = count;
            house[book] = itsHouse;
            thick[book] = itsThick;
            tall[book] = itsTall;
            thousand[book] = mark.number / 1000;
            for (int rule = 0; rule < RULES; rule++) {
                key[rule][book] = mark.keyBy(rule);
                putInOrder(book, rule);
            }
            quarrelling += quarrelsWithEarlier(book);
            count++;
            return book;
        }

        int sign(int a, int b, int rule) {
            long keyOfA = key[rule][a];
            long keyOfB = key[rule][b];
            if (keyOfA != keyOfB) {
                return keyOfA < keyOfB ? -1 : 1;
            }
            return a < b ? -1 : a == b ? 0 : 1;
        }

        private void putInOrder(int book, int rule) {
            int i = book;
            while (i > 0 && sign(book, order[rule][i - 1], rule) < 0) {
                order[rule][i] = order[rule][i - 1];
                i--;
            }
            order[rule][i] = book;
        }

        private int quarrelsWithEarlier(int book) {
            int found = 0;
            for (int other = 0; other < book; other++) {
                if (sign(other, book, 0) != sign(other, book, 1)) {
                    found++;
                }
            }
            return found;
        }
    }

    /** The SHELVES, and which BOOKS are LAID on them. */
    private static final class Shelves {
        final int[] length = new int[MOST_SHELVES];
        final int[] growth = new int[THOUSANDS];
        final int[] booksOn = new int[MOST_SHELVES];
        final int[] needed = new int[MOST_SHELVES];
        final int[] shelfOfBook = new int[MOST_BOOKS];
        final int[] placeOfBook = new int[MOST_BOOKS];
        int count = 0;
        int limit = 30;
        int outsize = 0;
        int notLaid = 0;

        int add(int itsLength) {
            if (count >= MOST_SHELVES) {
                return NONE;
            }
            length[count] = itsLength;
            count++;
            return count - 1;
        }

        int room(int shelf) {
            return 100 * length[shelf];
        }

        void lay(Books books, int rule) {
            clear();
            int atHand = 0;
            for (int i = 0; i < books.count; i++) {
                int book = books.order[rule][i];
                shelfOfBook[book] = NONE;
                placeOfBook[book] = NONE;
                if (books.tall[book] > limit) {
                    outsize++;
                    continue;
                }
                int needs = books.thick[book] * (100 + growth[books.thousand[book]]);
                while (atHand < count && needed[atHand] + needs > room(atHand)) {
                    atHand++;
                }
                if (atHand < count) {
                    put(book, needs, atHand);
                } else {
                    notLaid++;
                }
            }
        }

        private void clear() {
            outsize = 0;
            notLaid = 0;
            for (int shelf = 0; shelf < count; shelf++) {
                booksOn[shelf] = 0;
                needed[shelf] = 0;
            }
        }

        private void put(int book, int needs, int shelf) {
            shelfOfBook[book] = shelf;
            placeOfBook[book] = booksOn[shelf];
            booksOn[shelf]++;
            needed[shelf] += needs;
        }
    }

    /** The CRATES, and when the two TEAMS carry them. */
    private static final class Crates {
        final int[] wayOfHouse = {10, 10, 10, 10, 10};
        final int[] firstBook = new int[MOST_BOOKS];
        final int[] booksIn = new int[MOST_BOOKS];
        final int[] house = new int[MOST_BOOKS];
        final int[] begins = new int[MOST_BOOKS];
        final int[] ends = new int[MOST_BOOKS];
        final int[] crateOfBook = new int[MOST_BOOKS];
        int hold = 100;
        int count = 0;
        int ofFirstTeam = 0;
        int bothEnded = 0;

        void pack(Books books, int rule) {
            count = 0;
            int load = 0;
            for (int i = 0; i < books.count; i++) {
                int book = books.order[rule][i];
                boolean fits = count > 0 && house[count - 1] == books.house[book]
                        && load + books.thick[book] <= hold;
                if (!fits) {
                    firstBook[count] = book;
                    booksIn[count] = 0;
                    house[count] = books.house[book];
                    load = 0;
                    count++;
                }
                crateOfBook[book] = count - 1;
                booksIn[count - 1]++;
                load += books.thick[book];
            }
        }

        void meet() {
            int all = 0;
            for (int c = 0; c < count; c++) {
                all += wayOfHouse[house[c]];
            }
            ofFirstTeam = 0;
            bothEnded = all;
            int first = 0;
            for (int c = 0; c < count; c++) {
                first += wayOfHouse[house[c]];
                int later = Math.max(first, all - first);
                if (later < bothEnded) {
                    ofFirstTeam = c + 1;
                    bothEnded = later;
                }
            }
            setMinutes();
        }

        int stageOf(int book, int minute) {
            int c = crateOfBook[book];
            if (minute < begins[c]) {
                return 0;
            }
            return minute < ends[c] ? 1 : 2;
        }

        int readerHas(int book, int minute) {
            int c = crateOfBook[book];
            if (minute >= ends[c]) {
                return minute;
            }
            // The way is never 0, so this can't hold once the CRATE is under way.
            int brought = minute + wayOfHouse[house[c]];
            return brought <= begins[c] ? brought : ends[c];
        }

        private void setMinutes() {
            int minute = 0;
            for (int c = 0; c < ofFirstTeam; c++) {
                minute = carryFrom(minute, c);
            }
            minute = 0;
            for (int c = count - 1; c >= ofFirstTeam; c--) {
                minute = carryFrom(minute, c);
            }
        }

        private int carryFrom(int minute, int c) {
            begins[c] = minute;
            ends[c] = minute + wayOfHouse[house[c]];
            return ends[c];
        }
    }

    /** THE ROW, what is TAKEN OUT of it, and what is DRAWN from it. */
    private static final class Row {
        final int[] book = new int[MOST_BOOKS];
        final boolean[] out = new boolean[MOST_BOOKS];
        final int[] mostFrom = new int[MOST_BOOKS];
        final int[] places = new int[MOST_BOOKS];
        int count = 0;
        int outs = 0;

        boolean has(int place) {
            return within(place, 0, count - 1);
        }

        void fill(int[] order, int all, int[] shelfOfBook) {
            count = 0;
            for (int i = 0; i < all; i++) {
                if (shelfOfBook[order[i]] != NONE) {
                    book[count] = order[i];
                    count++;
                }
            }
        }

        void carry(int from, int to) {
            int carried = book[from];
            for (int i = from; i < to; i++) {
                book[i] = book[i + 1];
            }
            for (int i = from; i > to; i--) {
                book[i] = book[i - 1];
            }
            book[to] = carried;
        }

        void findOuts(Books books, int rule) {
            int most = 0;
            for (int i = count - 1; i >= 0; i--) {
                mostFrom[i] = 1 + mostBehind(i, books, rule);
                most = Math.max(most, mostFrom[i]);
            }
            outs = count - most;
            // Whoever comes first of those that leave enough behind stays: so the places that stay are the earliest.
            int left = most;
            int last = NONE;
            for (int i = 0; i < count; i++) {
                boolean stays = mostFrom[i] == left
                        && (last == NONE || books.sign(last, book[i], rule) < 0);
                out[i] = !stays;
                if (stays) {
                    last = book[i];
                    left--;
                }
            }
        }

        private int mostBehind(int i, Books books, int rule) {
            int most = 0;
            for (int j = i + 1; j < count; j++) {
                if (mostFrom[j] > most && books.sign(book[i], book[j], rule) < 0) {
                    most = mostFrom[j];
                }
            }
            return most;
        }

        int draw(int n, int seed, Books books, int rule) {
            int all = count - 1;
            for (int i = 0; i < all; i++) {
                places[i] = i;
            }
            int s = seed;
            int behind = 0;
            for (int i = 0; i < n && i < all; i++) {
                s = s * 1103515245 + 12345;
                int other = i + (s >>> 16) % (all - i);
                int place = places[other];
                places[other] = places[i];
                places[i] = place;
                if (books.sign(book[place], book[place + 1], rule) > 0) {
                    behind++;
                }
            }
            return behind;
        }
    }
}
