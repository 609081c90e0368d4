import java.io.IOException;
import java.nio.file.Files;
import java.nio.file.Path;
import java.util.List;

/** The example of README.md stands there as it is called here, and with the answers that are given here. */
final class Readme {
    private static final Path FILE = Path.of("README.md");

    private final Checks checks;
    private List<String> lines;

    Readme(Checks checks) {
        this.checks = checks;
    }

    void all() {
        checks.run("README.md: the example answers as it says", this::example);
    }

    private void says(String call, int answer) {
        String due = call + " // " + answer + ": ";
        boolean stands = lines.stream().anyMatch(line -> line.replaceAll(" +//", " //").startsWith(due));
        checks.due("README.md has '" + due + "'", true, stands);
    }

    private void example() {
        try {
            lines = Files.readAllLines(FILE);
        } catch (IOException e) {
            throw new IllegalStateException(e);
        }
        BooksMoved x = new BooksMoved();
        says("x.feed(0x3132332e, 0x35000000, 0, 0, 0);", x.feed(0x3132332e, 0x35000000, 0, 0, 0));
        says("x.end(5);", x.end(5));
        int book = x.book(0, 10, 20);
        says("int book = x.book(0, 10, 20);", book);
        says("x.shelf(60);", x.shelf(60));
        says("x.laid(book, 0);", x.laid(book, 0));
        says("x.crate(0, 4);", x.crate(0, 4));
        says("x.where(book, 3, 1);", x.where(book, 3, 1));
        says("x.row();", x.row());
        says("x.takenOut();", x.takenOut());
    }
}
