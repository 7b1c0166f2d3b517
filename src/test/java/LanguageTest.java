import java.io.IOException;
import java.nio.charset.StandardCharsets;
import java.nio.file.Files;
import java.nio.file.Path;
import java.util.regex.Matcher;
import java.util.regex.Pattern;

/** What of LANGUAGE.md can be told from the text of the class alone. Runs from the root of the checkout. */
public final class LanguageTest {

    private static final String[] FORBIDDEN = {
        "->", "::", "Exact\\(", "\\bfinally\\b", "\\bsynchronized\\b", "\\bassert\\b", "\\bpackage\\b", "@", "\\bvar\\b",
        "\\bstatic\\s*\\{", "\\bString\\.", "\"\\s*\\+", "\\+\\s*\"", "\\bgetMessage\\b", "\\bNaN\\b", "\\bMath\\.(?!(abs|floorMod|floorDiv|max|min)\\()",
        "\\bInteger\\.(?!bitCount\\()", "\\bArrays\\.(?!fill\\()", "\\bSystem\\.(?!arraycopy\\()", "\\bRandom\\b", "\\bThread\\b",
        "catch \\((Exception|RuntimeException|Throwable|NullPointerException|ArithmeticException|IndexOutOfBoundsException)\\b",
        "\\bthrow (?!new )",
    };

    private static final Checks CHECKS = new Checks("language");

    public static void main(String[] args) throws IOException {
        String source = Files.readString(Path.of("src/main/java/FourStones.java"), StandardCharsets.UTF_8);
        CHECKS.holds("signs up to 127", source.chars().allMatch(sign -> sign < 128));
        String code = source.replaceAll("(?s)/\\*.*?\\*/", "").replaceAll("//[^\n]*", "");
        for (String forbidden : FORBIDDEN) {
            Matcher matcher = Pattern.compile(forbidden).matcher(code);
            CHECKS.holds("no " + forbidden, !matcher.find());
        }
        Matcher imports = Pattern.compile("\\bimport ([^;]*);").matcher(code);
        while (imports.find()) {
            CHECKS.holds("import " + imports.group(1), imports.group(1).equals("java.util.Arrays"));
        }
        Matcher classes = Pattern.compile("\\b(class|enum|interface|record) [A-Z]").matcher(code);
        CHECKS.holds("at most twelve classes", classes.results().count() <= 12);
        CHECKS.end();
    }
}
