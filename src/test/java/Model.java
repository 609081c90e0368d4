import java.util.ArrayList;
import java.util.Collections;
import java.util.List;
import java.util.regex.Matcher;
import java.util.regex.Pattern;

/**
 * The document once more, in the slowest and plainest way, with nothing kept that can be worked out:
 * what BooksMoved answers is compared with what this answers.
 */
final class Model {
    private static final Pattern MARK = Pattern.compile("([0-9]{1,4})(?:\\.([0-9]{1,4}))?([a-z]{1,3})?");

    private static final class Book {
        int name;
        int number;
        String behind;
        String letters;
        int house;
        int thick;
        int tall;
    }

    private static final class Crate {
        final List<Book> books = new ArrayList<>();
        int begin;
        int end;
        int team;
    }

    private String tape = "";
    private int wrong = -1;
    private int rule = 0;
    private int limit = 30;
    private int hold = 100;
    private final int[] growth = new int[10];
    private final int[] ways = {10, 10, 10, 10, 10};
    private final List<Book> books = new ArrayList<>();
    private final List<Integer> shelves = new ArrayList<>();
    private List<Book> row = new ArrayList<>();

    int feed(int a, int b, int c, int d, int e) {
        if (tape.length() + 20 > 20) {
            return -1;
        }
        StringBuilder more = new StringBuilder(tape);
        for (int word : new int[] {a, b, c, d, e}) {
            more.append((char) (word >> 24 & 255)).append((char) (word >> 16 & 255));
            more.append((char) (word >> 8 & 255)).append((char) (word & 255));
        }
        tape = more.toString();
        return tape.length();
    }

    int end(int n) {
        if (n < 0 || n > tape.length()) {
            return -1;
        }
        tape = tape.substring(0, n);
        return n;
    }

    private static int wrongAt(String text) {
        for (int n = 1; n <= text.length(); n++) {
            Matcher m = MARK.matcher(text.substring(0, n));
            if (!m.matches() && !m.hitEnd()) {
                return n - 1;
            }
        }
        return MARK.matcher(text).matches() ? -1 : text.length();
    }

    int book(int house, int thick, int tall) {
        if (house < 0 || house > 4 || thick < 1 || thick > 200 || tall < 1 || tall > 100 || books.size() == 60) {
            return -1;
        }
        String text = tape;
        tape = "";
        wrong = wrongAt(text);
        if (wrong >= 0) {
            return -1;
        }
        Matcher m = MARK.matcher(text);
        m.matches();
        Book book = new Book();
        book.name = books.size();
        book.number = Integer.parseInt(m.group(1));
        book.behind = m.group(2) == null ? "" : m.group(2);
        book.letters = m.group(3) == null ? "" : m.group(3);
        book.house = house;
        book.thick = thick;
        book.tall = tall;
        books.add(book);
        return book.name;
    }

    int wrong() {
        return wrong;
    }

    boolean rule(int r) {
        if (r != 0 && r != 1) {
            return false;
        }
        rule = r;
        return true;
    }

    private static int comparedBehind(String a, String b, int rule) {
        if (rule == 0 || a.isEmpty() || b.isEmpty()) {
            return a.compareTo(b);
        }
        int byValue = Integer.compare(Integer.parseInt(a), Integer.parseInt(b));
        return byValue != 0 ? byValue : Integer.compare(a.length(), b.length());
    }

    private static int compared(Book a, Book b, int rule) {
        int by = Integer.compare(a.number, b.number);
        if (by == 0) {
            by = comparedBehind(a.behind, b.behind, rule);
        }
        if (by == 0) {
            by = a.letters.compareTo(b.letters);
        }
        if (by == 0) {
            by = Integer.compare(a.name, b.name);
        }
        return Integer.signum(by);
    }

    private boolean isBook(int b) {
        return b >= 0 && b < books.size();
    }

    int compare(int a, int b, int rule) {
        if (!isBook(a) || !isBook(b) || rule != 0 && rule != 1) {
            return -2;
        }
        return compared(books.get(a), books.get(b), rule);
    }

    private List<Book> order(int rule) {
        List<Book> order = new ArrayList<>(books);
        order.sort((a, b) -> compared(a, b, rule));
        return order;
    }

    int ordered(int i, int rule) {
        return !isBook(i) || rule != 0 && rule != 1 ? -1 : order(rule).get(i).name;
    }

    int quarrels() {
        int found = 0;
        List<Book> one = order(0);
        List<Book> other = order(1);
        for (int i = 0; i < one.size(); i++) {
            for (int j = i + 1; j < one.size(); j++) {
                if (other.indexOf(one.get(i)) > other.indexOf(one.get(j))) {
                    found++;
                }
            }
        }
        return found;
    }

    int shelf(int length) {
        if (length < 1 || length > 2000 || shelves.size() == 16) {
            return -1;
        }
        shelves.add(length);
        return shelves.size() - 1;
    }

    boolean sizes(int thousands, int v) {
        if (thousands == -1 && v >= 1 && v <= 100) {
            limit = v;
            return true;
        }
        if (thousands == -2 && v >= 1 && v <= 1000) {
            hold = v;
            return true;
        }
        if (thousands >= 0 && thousands <= 9 && v >= 0 && v <= 100) {
            growth[thousands] = v;
            return true;
        }
        return false;
    }

    private int needs(List<Book> some) {
        int sum = 0;
        for (Book book : some) {
            sum += book.thick * (100 + growth[book.number / 1000]);
        }
        return sum;
    }

    /** The books on each shelf, and behind those of the last shelf the ones that are not laid. */
    private List<List<Book>> laying() {
        List<List<Book>> on = new ArrayList<>();
        for (int s = 0; s <= shelves.size(); s++) {
            on.add(new ArrayList<>());
        }
        int hand = 0;
        for (Book book : order(rule)) {
            if (book.tall > limit) {
                continue;
            }
            while (true) {
                List<Book> here = on.get(hand);
                here.add(book);
                if (hand == shelves.size() || needs(here) <= 100 * shelves.get(hand)) {
                    break;
                }
                here.remove(book);
                hand++;
            }
        }
        return on;
    }

    int laid(int book, int what) {
        if (!isBook(book) || what < 0 || what > 1) {
            return -1;
        }
        List<List<Book>> on = laying();
        for (int s = 0; s < shelves.size(); s++) {
            int place = on.get(s).indexOf(books.get(book));
            if (place >= 0) {
                return what == 0 ? s : place;
            }
        }
        return -1;
    }

    int shelfOf(int shelf, int what) {
        if (shelf < 0 || shelf >= shelves.size() || what < 0 || what > 1) {
            return -1;
        }
        List<Book> here = laying().get(shelf);
        return what == 0 ? here.size() : 100 * shelves.get(shelf) - needs(here);
    }

    int counts(int what) {
        int outsize = 0;
        for (Book book : books) {
            outsize += book.tall > limit ? 1 : 0;
        }
        return what == 0 ? outsize
                : what == 1 ? laying().get(shelves.size()).size()
                : what == 2 ? crates().size() : -1;
    }

    boolean way(int house, int minutes) {
        if (house < 0 || house > 4 || minutes < 1 || minutes > 100) {
            return false;
        }
        ways[house] = minutes;
        return true;
    }

    private List<Crate> crates() {
        List<Crate> crates = new ArrayList<>();
        for (Book book : order(rule)) {
            Crate last = crates.isEmpty() ? null : crates.get(crates.size() - 1);
            int thick = book.thick;
            boolean same = true;
            if (last != null) {
                for (Book in : last.books) {
                    thick += in.thick;
                    same &= in.house == book.house;
                }
            }
            if (last == null || thick > hold || !same) {
                last = new Crate();
                crates.add(last);
            }
            last.books.add(book);
        }
        return crates;
    }

    private int carry(List<Crate> some, int team) {
        int minute = 0;
        for (Crate crate : some) {
            crate.team = team;
            crate.begin = minute;
            minute += ways[crate.books.get(0).house];
            crate.end = minute;
        }
        return minute;
    }

    private int carried(List<Crate> crates, int first) {
        List<Crate> back = new ArrayList<>(crates.subList(first, crates.size()));
        Collections.reverse(back);
        return Math.max(carry(crates.subList(0, first), 0), carry(back, 1));
    }

    private int firstTeams(List<Crate> crates) {
        int best = 0;
        for (int n = 1; n <= crates.size(); n++) {
            if (carried(crates, n) < carried(crates, best)) {
                best = n;
            }
        }
        return best;
    }

    private List<Crate> carriedCrates() {
        List<Crate> crates = crates();
        carried(crates, firstTeams(crates));
        return crates;
    }

    int crate(int c, int what) {
        List<Crate> crates = carriedCrates();
        if (c < 0 || c >= crates.size() || what < 0 || what > 5) {
            return -1;
        }
        Crate crate = crates.get(c);
        Book first = crate.books.get(0);
        return new int[] {first.name, crate.books.size(), first.house, crate.begin, crate.end, crate.team}[what];
    }

    int meeting(int what) {
        List<Crate> crates = crates();
        int first = firstTeams(crates);
        return what == 0 ? first : what == 1 ? carried(crates, first) : -1;
    }

    int where(int book, int minute, int what) {
        if (!isBook(book) || minute < 0 || minute > 100000 || what < 0 || what > 2) {
            return -1;
        }
        Book it = books.get(book);
        List<Crate> crates = carriedCrates();
        int c = 0;
        while (!crates.get(c).books.contains(it)) {
            c++;
        }
        Crate crate = crates.get(c);
        int at = minute < crate.begin ? 0 : minute < crate.end ? 1 : 2;
        int has = crate.end;
        if (at == 2) {
            has = minute;
        } else if (at == 0 && minute + ways[it.house] <= crate.begin) {
            has = minute + ways[it.house];
        }
        return what == 0 ? at : what == 1 ? has : c;
    }

    int row() {
        row = new ArrayList<>();
        List<List<Book>> on = laying();
        for (int s = 0; s < shelves.size(); s++) {
            row.addAll(on.get(s));
        }
        return row.size();
    }

    private boolean isPlace(int place) {
        return place >= 0 && place < row.size();
    }

    int at(int place) {
        return isPlace(place) ? row.get(place).name : -1;
    }

    boolean misplace(int from, int to) {
        if (!isPlace(from) || !isPlace(to) || from == to) {
            return false;
        }
        row.add(to, row.remove(from));
        return true;
    }

    /** The most that can stay if all of 'sure' do (they must be in order) and others behind place 'from'. */
    private int most(List<Book> sure, int from) {
        List<Book> some = new ArrayList<>(sure);
        some.addAll(row.subList(from, row.size()));
        int[] ending = new int[some.size()];
        int best = 0;
        for (int i = 0; i < some.size(); i++) {
            if (i < sure.size()) {
                ending[i] = i + 1;
            } else {
                boolean behindSure = sure.isEmpty() || compared(sure.get(sure.size() - 1), some.get(i), rule) < 0;
                ending[i] = behindSure ? sure.size() + 1 : -1;
                for (int j = sure.size(); j < i && behindSure; j++) {
                    if (compared(some.get(j), some.get(i), rule) < 0) {
                        ending[i] = Math.max(ending[i], ending[j] + 1);
                    }
                }
            }
            best = Math.max(best, ending[i]);
        }
        return best;
    }

    private List<Book> staying() {
        return row.size() <= 10 ? stayingOfAllSets() : stayingStepByStep();
    }

    private List<Book> stayingStepByStep() {
        int best = most(new ArrayList<>(), 0);
        List<Book> sure = new ArrayList<>();
        for (int i = 0; i < row.size(); i++) {
            if (sure.isEmpty() || compared(sure.get(sure.size() - 1), row.get(i), rule) < 0) {
                sure.add(row.get(i));
                if (most(sure, i + 1) < best) {
                    sure.remove(sure.size() - 1);
                }
            }
        }
        return sure;
    }

    private List<Book> stayingOfAllSets() {
        List<Book> best = new ArrayList<>();
        for (int set = 0; set < 1 << row.size(); set++) {
            List<Book> some = new ArrayList<>();
            boolean inOrder = true;
            for (int i = 0; i < row.size() && inOrder; i++) {
                if ((set >> i & 1) != 0) {
                    inOrder = some.isEmpty() || compared(some.get(some.size() - 1), row.get(i), rule) < 0;
                    some.add(row.get(i));
                }
            }
            if (inOrder && (some.size() > best.size() || some.size() == best.size() && earlier(some, best))) {
                best = some;
            }
        }
        return best;
    }

    private boolean earlier(List<Book> some, List<Book> others) {
        for (int i = 0; i < some.size(); i++) {
            int a = row.indexOf(some.get(i));
            int b = row.indexOf(others.get(i));
            if (a != b) {
                return a < b;
            }
        }
        return false;
    }

    int takenOut() {
        return row.size() - staying().size();
    }

    int isOut(int place) {
        return !isPlace(place) ? -1 : staying().contains(row.get(place)) ? 0 : 1;
    }

    int drawn(int n, int seed, int what) {
        int m = row.size() - 1;
        if (n < 1 || n > m || what < 0 || what > 2) {
            return -1;
        }
        List<Integer> places = new ArrayList<>();
        for (int i = 0; i < m; i++) {
            places.add(i);
        }
        int s = seed;
        for (int i = 0; i < n; i++) {
            s = s * 1103515245 + 12345;
            Collections.swap(places, i, i + (s >>> 16) % (m - i));
        }
        int behind = 0;
        for (int place : places.subList(0, n)) {
            behind += compared(row.get(place), row.get(place + 1), rule) > 0 ? 1 : 0;
        }
        return what < 2 ? behind : behind + (m - n);
    }

    int about(int what) {
        if (what >= 10 && what <= 19) {
            return growth[what - 10];
        }
        if (what >= 20 && what <= 24) {
            return ways[what - 20];
        }
        int[] all = {books.size(), shelves.size(), rule, limit, hold, row.size(), tape.length()};
        return what >= 0 && what < all.length ? all[what] : -1;
    }
}
