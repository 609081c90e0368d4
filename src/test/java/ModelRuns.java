/** Long runs of calls, made by number, on a BooksMoved and on the Model: the answers must be the same. */
final class ModelRuns {
    private static final int CALLS = 512;
    private static final int[] EDGES = {
        Integer.MIN_VALUE, Integer.MIN_VALUE + 1, -65536, -3, -2, -1, 0, 1, 2, 3, 4, 5, 6, 9, 10, 15, 16, 19, 20,
        24, 25, 29, 30, 31, 59, 60, 61, 99, 100, 101, 199, 200, 201, 999, 1000, 1001, 1999, 2000, 2001, 99999,
        100000, 100001, 65536, Integer.MAX_VALUE - 1, Integer.MAX_VALUE};

    private final Checks checks;
    private long state;
    private BooksMoved real;
    private Model model;

    ModelRuns(Checks checks) {
        this.checks = checks;
    }

    void all() {
        checks.run("runs in which books are few", () -> runs(1, 120, 12));
        checks.run("runs in which books are many", () -> runs(1001, 120, 60));
        checks.run("runs of wild arguments", this::wildRuns);
    }

    private int next(int bound) {
        state = state * 6364136223846793005L + 1442695040888963407L;
        return (int) ((state >>> 33) % bound);
    }

    private void start(int seed) {
        state = seed * 7919L;
        next(2);
        real = new BooksMoved();
        model = new Model();
    }

    private void runs(int seed, int runs, int books) {
        for (int run = 0; run < runs; run++) {
            start(seed + run);
            boolean narrow = run % 2 == 0;
            int shelves = next(12);
            int calls = 0;
            for (int i = 0; i < shelves; i++, calls++) {
                int length = 1 + next(narrow ? 150 : 600);
                due("shelf(" + length + ")", model.shelf(length), real.shelf(length));
            }
            for (int i = 0; i < books && calls < CALLS - 4; i++, calls += 4) {
                addBook();
                if (next(4) == 0) {
                    ask(next(25), false);
                    calls++;
                }
            }
            due("row()", model.row(), real.row());
            for (; calls < CALLS; calls++) {
                ask(next(25), false);
            }
        }
    }

    private void wildRuns() {
        for (int run = 0; run < 300; run++) {
            start(5000 + run);
            if (run % 3 > 0) {
                due("shelf(300)", model.shelf(300), real.shelf(300));
                for (int i = 0; i < run % 3 * 5; i++) {
                    addBook();
                }
                due("row()", model.row(), real.row());
            }
            for (int calls = 0; calls < 400; calls++) {
                ask(next(25), true);
            }
        }
    }

    private void addBook() {
        String mark = aMark();
        int n = mark.length();
        int[] w = new int[5];
        for (int i = 0; i < 5; i++) {
            w[i] = Tapes.word(mark, i);
        }
        due("end(0)", model.end(0), real.end(0));
        due("feed " + mark, model.feed(w[0], w[1], w[2], w[3], w[4]), real.feed(w[0], w[1], w[2], w[3], w[4]));
        due("end(" + n + ")", model.end(n), real.end(n));
        int house = next(next(2) == 0 ? 2 : 5);
        int thick = 1 + next(next(3) == 0 ? 200 : 40);
        int tall = 1 + next(next(4) == 0 ? 100 : 32);
        due("book of " + mark, model.book(house, thick, tall), real.book(house, thick, tall));
        due("wrong() of " + mark, model.wrong(), real.wrong());
    }

    private String aMark() {
        StringBuilder mark = new StringBuilder();
        String[] numbers = {"1", "01", "001", "7", "12", "700", "1000", "1999", "9999", "0", "0000", "5000"};
        mark.append(numbers[next(next(2) == 0 ? 3 : numbers.length)]);
        if (next(4) > 0) {
            mark.append('.');
            for (int i = 1 + next(4); i > 0; i--) {
                mark.append("01259".charAt(next(5)));
            }
        }
        if (next(3) == 0) {
            for (int i = 1 + next(3); i > 0; i--) {
                mark.append("abz".charAt(next(3)));
            }
        }
        if (next(10) == 0) {
            mark.insert(next(mark.length() + 1), "0.a{`/:A \0\u00e9\u00ff".charAt(next(12)));
        }
        if (next(20) == 0) {
            mark.setLength(next(mark.length() + 1));
        }
        return mark.toString();
    }

    private int arg(boolean wild, int least, int bound) {
        if (wild || next(12) == 0) {
            return EDGES[next(EDGES.length)];
        }
        return least + next(bound);
    }

    private void ask(int which, boolean wild) {
        switch (which) {
            case 0, 1, 2, 3 -> askMakers(which, wild);
            case 4, 5, 6, 7, 8, 9 -> askOrder(which, wild);
            case 10, 11, 12, 13, 14, 15, 16 -> askMoved(which, wild);
            default -> askRow(which, wild);
        }
    }

    private void askMakers(int which, boolean wild) {
        int a = arg(wild, 0, 5);
        int b = arg(wild, 1, 60);
        int c = arg(wild, 1, 40);
        if (which == 0 && wild) {
            due("feed", model.feed(a, b, c, a, b), real.feed(a, b, c, a, b));
        } else if (which == 1 && wild) {
            due("end(" + b + ")", model.end(b), real.end(b));
        } else if (which == 2) {
            due("book(" + a + ", " + b + ", " + c + ")", model.book(a, b, c), real.book(a, b, c));
        } else if (which == 3 && (wild || next(3) == 0)) {
            addBook();
        }
        due("wrong()", model.wrong(), real.wrong());
    }

    private void askOrder(int which, boolean wild) {
        int a = arg(wild, 0, 20);
        int b = arg(wild, 0, 20);
        int rule = arg(wild, 0, 2);
        switch (which) {
            case 4 -> due("rule(" + rule + ")", model.rule(rule), real.rule(rule));
            case 5, 6 -> due("compare(" + a + ", " + b + ", " + rule + ")",
                    model.compare(a, b, rule), real.compare(a, b, rule));
            case 7, 8 -> due("ordered(" + a + ", " + rule + ")", model.ordered(a, rule), real.ordered(a, rule));
            default -> due("quarrels()", model.quarrels(), real.quarrels());
        }
    }

    private void askMoved(int which, boolean wild) {
        int what = arg(wild, 0, 7);
        int a = arg(wild, 0, 30);
        switch (which) {
            case 10 -> {
                int thousands = arg(wild, -2, 12);
                int v = arg(wild, 0, thousands == -1 ? 60 : 101);
                due("sizes(" + thousands + ", " + v + ")", model.sizes(thousands, v), real.sizes(thousands, v));
            }
            case 11 -> due("laid(" + a + ", " + what % 2 + ")", model.laid(a, what % 2), real.laid(a, what % 2));
            case 12 -> due("shelfOf(" + a % 16 + ", " + what + ")",
                    model.shelfOf(a % 16, what), real.shelfOf(a % 16, what));
            case 13 -> {
                int house = arg(wild, 0, 5);
                due("way(" + house + ", " + a + ")", model.way(house, a), real.way(house, a));
            }
            case 14 -> due("crate(" + a + ", " + what + ")", model.crate(a, what), real.crate(a, what));
            case 15 -> {
                due("meeting(" + what + ")", model.meeting(what), real.meeting(what));
                due("counts(" + what + ")", model.counts(what), real.counts(what));
            }
            default -> {
                int minute = arg(wild, 0, 400);
                int of = wild ? what : what % 3;
                due("where(" + a + ", " + minute + ", " + of + ")",
                        model.where(a, minute, of), real.where(a, minute, of));
            }
        }
    }

    private void askRow(int which, boolean wild) {
        int a = arg(wild, 0, 12);
        int b = arg(wild, 0, 12);
        int seed = arg(wild, 0, 1 << 30);
        int what = arg(wild, 0, 3);
        switch (which) {
            case 17 -> {
                if (next(8) == 0) {
                    due("row()", model.row(), real.row());
                }
            }
            case 18 -> due("at(" + a + ")", model.at(a), real.at(a));
            case 19, 20 -> due("misplace(" + a + ", " + b + ")", model.misplace(a, b), real.misplace(a, b));
            case 21 -> due("takenOut()", model.takenOut(), real.takenOut());
            case 22 -> due("isOut(" + a + ")", model.isOut(a), real.isOut(a));
            case 23 -> due("drawn(" + a + ", " + seed + ", " + what + ")",
                    model.drawn(a, seed, what), real.drawn(a, seed, what));
            default -> {
                int of = wild ? a : next(27) - 1;
                due("about(" + of + ")", model.about(of), real.about(of));
            }
        }
    }

    private void due(String call, Object want, Object got) {
        checks.due(call, want, got);
    }
}
