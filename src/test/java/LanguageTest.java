import java.io.IOException;
import java.nio.file.Files;
import java.nio.file.Path;
import java.util.List;
import java.util.regex.Matcher;
import java.util.regex.Pattern;

/** What of ../shared/LANGUAGE.md can be seen from the words of the source; it is run from the project's folder. */
public final class LanguageTest {
    private static final List<String> FORBIDDEN = List.of(
        "\\b(throw|throws|try|catch|finally|synchronized|assert|package|native|volatile|transient)\\b", "->", "::",
        "Exact\\b", "\\b(Object|Random|Thread|Exception|Error|Character|Byte|Short|Boolean|Double|Float)\\b",
        "\\b(Integer|Long)\\.[A-Z]", "\\bSystem\\.(?!arraycopy\\b)", "\\bequals\\b", "\\bhashCode\\b", "\\btoString\\b",
        "\\bwhile \\(true\\)", "for \\(;;\\)", "[^\\x00-\\x7f]", "\\bstatic \\{");

    private final Due due = new Due("language");

    public static void main(String[] args) throws IOException {
        LanguageTest test = new LanguageTest();
        String source = Files.readString(Path.of("src/main/java/TwoMetals.java"));
        String code = source.replaceAll("(?s)/\\*.*?\\*/", "").replaceAll("//[^\n]*", "");
        test.forbiddenWords(code);
        test.imports(code);
        test.staticFields(code);
        test.lengths(code);
        test.due.finish();
    }

    private void forbiddenWords(String code) {
        for (String word : FORBIDDEN) {
            Matcher found = Pattern.compile(word).matcher(code);
            due.holds("no '" + word + "'", !found.find());
        }
    }

    private void imports(String code) {
        Matcher found = Pattern.compile("(?m)^import ([^;]*);").matcher(code);
        while (found.find()) {
            due.holds("import " + found.group(1), List.of("java.util.Arrays", "java.util.ArrayList", "java.util.List")
                .contains(found.group(1)));
        }
    }

    private void staticFields(String code) {
        Matcher found = Pattern.compile("(?m)^.*\\bstatic\\b[^(\\n]*=[^\\n]*$").matcher(code);
        while (found.find()) {
            due.holds("a constant: " + found.group().trim(), found.group().contains("static final "));
        }
    }

    /** A method begins with a line that ends in ") {" at the depth of a class and ends with a brace of the same depth. */
    private void lengths(String code) {
        String name = "";
        int since = 0;
        int number = 0;
        for (String line : code.split("\n")) {
            number++;
            if (line.matches("( {4}| {8})[a-zA-Z].*\\) \\{")) {
                name = line.trim();
                since = number;
                due.holds("seven parameters at most: " + name, name.chars().filter(c -> c == ',').count() < 7);
            }
            if (line.matches("( {4}| {8})}") && since > 0) {
                due.holds("sixty lines at most: " + name, number - since < 60);
            }
        }
        due.holds("it was read", number > 100);
    }
}
