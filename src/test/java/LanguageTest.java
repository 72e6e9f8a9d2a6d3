import java.io.IOException;
import java.nio.file.Files;
import java.nio.file.Path;
import java.util.regex.Matcher;
import java.util.regex.Pattern;

/** What of LANGUAGE.md can be seen in the text of the class; run from the project's folder. */
public final class LanguageTest {
    private static final String FORBIDDEN_WORDS = "import|package|interface|enum|record|protected"
            + "|float|double|String|Math|Integer|Long|System|Arrays|Object|null"
            + "|throw|throws|try|catch|finally|synchronized|assert|instanceof";

    public static void main(String[] args) throws IOException {
        Due due = new Due();
        String code = Files.readString(Path.of("src/main/java/BlockSchedOpt.java"))
                .replaceAll("(?s)/\\*.*?\\*/", "")
                .replaceAll("//.*", "");
        none(due, "a word outside the language", "\\b(" + FORBIDDEN_WORDS + ")\\b", code);
        none(due, "a lambda or method reference", "->|::", code);
        none(due, "a string, a float or a two-dimensional array", "\"|\\d\\.\\d|\\]\\s*\\[\\s*\\]", code);
        none(due, "a second class", "(?s)\\bclass\\b.*\\bclass\\b", code);
        none(due, "an array made outside a field of constant length",
                "(?m)^(?!    private final int\\[\\] \\w+ = new int\\[[A-Z]+(_[A-Z]+)*\\];$).*\\bnew\\b.*$", code);
        none(due, "a static field that is no constant int or long",
                "(?m)^    \\w+ static (?!final (int|long) [A-Z_]+ = )[^(]*;$", code);
        none(due, "a loop without an end in sight", "while \\(true\\)|for \\([^;]*;\\s*;", code);
        due.end();
    }

    private static void none(Due due, String what, String pattern, String code) {
        Matcher found = Pattern.compile(pattern).matcher(code);
        if (found.find()) {
            due.fail(what + ": " + found.group().strip());
        }
    }
}
