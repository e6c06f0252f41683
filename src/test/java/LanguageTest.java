import java.io.IOException;
import java.nio.charset.StandardCharsets;
import java.nio.file.Files;
import java.nio.file.Path;
import java.util.List;
import java.util.regex.Matcher;
import java.util.regex.Pattern;

/** What LANGUAGE.md rules out and a look at the text can find. It runs in the project's folder. */
public final class LanguageTest {
    private static final List<String> IMPORTS =
            List.of("import java.util.Arrays;", "import java.util.NoSuchElementException;");

    /** Words and signs that the program has no use for. */
    private static final String[] FORBIDDEN = {
        "->", "::", "\\btry\\b", "\\bcatch\\b", "\\bfinally\\b", "\\bsynchronized\\b", "\\bassert\\b",
        "\\bpackage\\b", "\\bthread", "Exact\\b", "\\bequals\\b", "\\bhashCode\\b", "\\btoString\\b",
        "\\bgetClass\\b", "\\bprotected\\b", "Math\\.(?!min\\(|max\\()", "System\\.(?!arraycopy\\()",
        "Arrays\\.(?!fill\\(|copyOf)", "\\bnull\\b"
    };

    private static final Check check = new Check();

    public static void main(String[] args) throws IOException {
        String text = Files.readString(Path.of("src/main/java/RoadOracle.java"),
                StandardCharsets.ISO_8859_1);
        String code = text.replaceAll("(?s)/\\*.*?\\*/", "").replaceAll("//[^\n]*", "");
        for (char sign : text.toCharArray()) {
            check.same("a sign of the text is ASCII", sign < 128, true);
        }
        for (String word : FORBIDDEN) {
            check.same("the code has " + word, Pattern.compile(word).matcher(code).find(), false);
        }
        for (String line : code.split("\n")) {
            if (line.startsWith("import")) {
                check.same(line, IMPORTS.contains(line.strip()), true);
            }
        }
        Matcher thrown = Pattern.compile("throw (?!new \\w+Exception\\((\"[^\"]*\")?\\);)").matcher(code);
        check.same("every throw makes a plain exception", thrown.find(), false);
        check.finish("LanguageTest");
    }
}
