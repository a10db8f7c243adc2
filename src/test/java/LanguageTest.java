import java.io.IOException;
import java.nio.file.Files;
import java.nio.file.Path;
import java.util.HashSet;
import java.util.Set;
import java.util.regex.Matcher;
import java.util.regex.Pattern;

/** Words that LANGUAGE.md leaves out do not stand in the program, whose path is the first argument. */
public final class LanguageTest {
    private static final String[] LEFT_OUT = {
        "\\b(throw|throws|try|catch|finally|synchronized|assert|volatile|native|strictfp)\\b", "->", "::",
        "\\b(import|package)\\b", "\\bvar\\b", "\\b\\w+Exact\\b", "\\bThread\\b", "\\bObject\\b",
        "\\b(hashCode|toString|nanoTime|currentTimeMillis|random)\\b", "\\bprotected\\b", "while \\(true\\)", "for \\(;;\\)"};

    public static void main(String[] args) throws IOException {
        Check check = new Check("LanguageTest");
        String source = Files.readString(Path.of(args[0]));
        String code = source.replaceAll("(?s)/\\*.*?\\*/", "").replaceAll("//[^\n]*", "").replaceAll("\"[^\"\n]*\"", "\"\"");
        for (String words : LEFT_OUT) {
            Matcher found = Pattern.compile(words).matcher(code);
            check.holds("without " + words, !found.find());
        }
        Matcher statics = Pattern.compile("\\bstatic\\b(?! final\\b)[^({;]*[;=]").matcher(code);
        check.holds("static fields are final", !statics.find());
        check.holds("no static block", !Pattern.compile("\\bstatic\\s*\\{").matcher(code).find());
        checkMethodLengths(check, code);
        checkLibrary(check, code);
        checkWhereObjectsAreMade(check, code);
        check.end();
    }

    /** Rule 4: of names that begin with a capital only the file's own classes, and of the library what is used here. */
    private static void checkLibrary(Check check, String code) {
        Set<String> known = new HashSet<>(Set.of("String", "Math", "System"));
        Matcher classes = Pattern.compile("\\bclass (\\w+)").matcher(code);
        while (classes.find()) {
            known.add(classes.group(1));
        }
        Matcher names = Pattern.compile("\\b[A-Z]\\w*[a-z]\\w*").matcher(code);
        while (names.find()) {
            check.holds(names.group() + " is known", known.contains(names.group()));
        }
        Matcher calls = Pattern.compile("\\b(Math|System)\\.\\w+").matcher(code);
        while (calls.find()) {
            check.holds(calls.group() + " stands in rule 4", calls.group().matches("Math\\.(abs|max|min)|System\\.arraycopy"));
        }
    }

    /** All calls of a run live in one room: what a call needs is made with the object, in a field's initialiser. */
    private static void checkWhereObjectsAreMade(Check check, String code) {
        for (String line : code.split("\n")) {
            if (Pattern.compile("\\bnew\\b").matcher(line).find()) {
                check.holds("made with the object: " + line.trim(), line.matches(" +(private )?final [\\w\\[\\]]+ \\w+ = .*;"));
            }
        }
    }

    /** Methods stand four or eight blanks deep and end with a brace as deep as they began. */
    private static void checkMethodLengths(Check check, String code) {
        String[] lines = code.split("\n");
        for (int i = 0; i < lines.length; i++) {
            Matcher head = Pattern.compile("^((?: {4}){1,2})\\S[^=;]*\\(.*\\{$").matcher(lines[i]);
            if (head.find()) {
                int end = i + 1;
                while (end < lines.length && !lines[end].equals(head.group(1) + "}")) {
                    end++;
                }
                check.holds("short: " + lines[i].trim(), end - i < 60);
            }
        }
    }
}
