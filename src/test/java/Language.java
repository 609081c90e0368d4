import java.io.IOException;
import java.nio.file.Files;
import java.nio.file.Path;
import java.util.regex.Matcher;
import java.util.regex.Pattern;

/** Those rules of LANGUAGE.md that the words of the source alone can tell. */
final class Language {
    private static final int LONGEST_METHOD = 60;

    private final Checks checks;
    private final String file;

    Language(Checks checks, String file) {
        this.checks = checks;
        this.file = file;
    }

    void all() {
        checks.run("the language: no word that is ruled out", this::words);
        checks.run("the language: short methods", this::methods);
    }

    private String source() {
        try {
            return Files.readString(Path.of(file));
        } catch (IOException e) {
            throw new IllegalStateException(e);
        }
    }

    private void none(String code, String pattern) {
        Matcher m = Pattern.compile(pattern).matcher(code);
        checks.due("a look for " + pattern, "nothing", m.find() ? m.group() : "nothing");
    }

    private void words() {
        String code = source().replaceAll("(?s)/\\*.*?\\*/", "").replaceAll("//[^\n]*", "");
        none(code, "\\b(package|import|throw|throws|try|catch|finally|synchronized|assert|protected|volatile)\\b");
        none(code, "\\b(instanceof|float|double|Object|hashCode|toString|equals|System|Thread|Random|Exact)\\b");
        none(code, "->|::|\"|@");
        // Objects and rows are made in constructors and field initialisers alone: '= new', at the start of an object.
        Matcher made = Pattern.compile("\n([^\n]*)\\bnew\\b").matcher(code);
        while (made.find()) {
            String line = made.group(1);
            checks.due("made in: " + line, true, line.matches(" +(final [\\w\\[\\]]+ \\w+|\\w+) = "));
        }
    }

    private void methods() {
        int open = -1;
        String[] lines = source().split("\n");
        for (int i = 0; i < lines.length; i++) {
            if (lines[i].matches(" +[^=;]*\\) \\{") && !lines[i].matches(" +(\\} else )?(if|for|while|switch)\\b.*")) {
                open = i;
            }
            if (open >= 0 && lines[i].matches(" {4}( {4})?\\}")) {
                checks.due("method at line " + (open + 1) + " is short", true, i - open <= LONGEST_METHOD);
                open = -1;
            }
            checks.due("line " + (i + 1) + " is short", true, lines[i].length() <= 120);
        }
    }
}
