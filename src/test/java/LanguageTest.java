import java.io.IOException;
import java.nio.file.Files;
import java.nio.file.Path;
import java.util.regex.Matcher;
import java.util.regex.Pattern;

/** Looks over the source for what LANGUAGE.md does not allow, as far as words and lines tell it. */
public final class LanguageTest {
    private static final Path SOURCE = Path.of("src/main/java/SquaredPaper.java");
    private static final String[] FORBIDDEN = {
        "\\bpackage\\b", "\\bimport\\b", "->", "::", "\\btry\\b", "\\bcatch\\b", "\\bfinally\\b", "\\bsynchronized\\b", "\\bassert\\b",
        "\\bprotected\\b", "\\bvolatile\\b", "\\bnative\\b", "\\bvar\\b", "\\binstanceof\\b", "\\bequals\\b", "\\bhashCode\\b",
        "\\btoString\\b", "\\w*Exact\\b", "\\bstatic\\s*\\{", "\\bSystem\\.(?!arraycopy\\b)", "\\bMath\\.(?!(abs|min|max)\\()",
        "\\bArrays\\b", "\\bThread\\b", "\\bRuntime\\b", "\"\\s*\\+", "\\+\\s*\"", "\\bwhile\\b", "\\bfloat\\b", "\\bdouble\\b",
        "\\bthrow (?!new (IllegalStateException|IllegalArgumentException|IndexOutOfBoundsException)\\(\"[^\"]*\"\\);)", "[^\\x00-\\x7f]",
    };
    private static final int LONGEST_METHOD = 60;
    private static final int LONGEST_LINE = 130;

    public static void main(String[] args) throws IOException {
        Check check = new Check();
        String source = Files.readString(SOURCE);
        String code = source.replaceAll("(?s)/\\*.*?\\*/", "").replaceAll("//[^\n]*", "");
        for (String word : FORBIDDEN) {
            Matcher m = Pattern.compile(word).matcher(code);
            if (m.find()) {
                check.report("the source has " + word + " in: " + code.substring(Math.max(0, m.start() - 30), Math.min(code.length(), m.end() + 30)));
            }
        }
        int begin = 0;
        String[] lines = source.split("\n");
        for (int i = 0; i < lines.length; i++) {
            if (lines[i].length() > LONGEST_LINE) {
                check.report("line " + (i + 1) + " is too long");
            }
            if (lines[i].matches(" +[^=;*/]*\\).*\\{") && !lines[i].matches(" +(\\} else )?(if|for|switch).*")) {
                begin = i;
            }
            if (lines[i].matches(" {4}( {4})?\\}") && i - begin > LONGEST_METHOD) {
                check.report("the method that ends in line " + (i + 1) + " is too long");
            }
        }
        Matcher arguments = Pattern.compile("\\b(?:int|boolean|void|long) \\w+\\(((?:[^,()]*,){7}[^()]*)\\)").matcher(code);
        if (arguments.find()) {
            check.report("more than seven parameters: " + arguments.group());
        }
        check.end();
    }
}
