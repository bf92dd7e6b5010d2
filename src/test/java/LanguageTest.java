import java.io.IOException;
import java.nio.file.Files;
import java.nio.file.Path;
import java.util.Set;
import java.util.regex.Matcher;
import java.util.regex.Pattern;

/** What of LANGUAGE.md can be seen in the text of the class: words and signs that are not in it, short methods. */
public final class LanguageTest {
    private static final Check CHECK = new Check();
    private static final Path SOURCE = Path.of("src/main/java/PriceRise.java");
    private static final String[] FORBIDDEN = {
        "\\bthrow\\b", "\\bthrows\\b", "\\btry\\b", "\\bcatch\\b", "\\bsynchronized\\b", "\\bassert\\b", "\\bimport\\b",
        "\\bpackage\\b", "->", "::", "\\bvar\\b", "\\bdouble\\b", "\\bfloat\\b", "\\bSystem\\b", "\\bThread\\b", "@",
        "Exact\\b", "\\binstanceof\\b", "\\bhashCode\\b", "\\bequals\\b", "\\btoString\\b", "\\bprotected\\b"};
    private static final Set<String> LIBRARY = Set.of("Integer.bitCount", "Math.max", "Math.min", "Math.abs");

    private static void words(String code) {
        for (String word : FORBIDDEN) {
            CHECK.due(word + " is in the class", Pattern.compile(word).matcher(code).find() ? 1 : 0, 0);
        }
        Matcher m = Pattern.compile("\\b(Integer|Long|Math|Arrays|String|StringBuilder|List|ArrayList)\\b(\\.\\w+)?").matcher(code);
        while (m.find()) CHECK.due(m.group() + " is of the library used", LIBRARY.contains(m.group()) ? 1 : 0, 1);
    }

    private static void methods(String[] lines) {
        int start = -1;
        String end = "";
        for (int i = 0; i < lines.length; i++) {
            if (start < 0 && lines[i].matches(" {4,8}[a-zA-Z].*\\) \\{") ) {
                start = i;
                end = lines[i].substring(0, lines[i].length() - lines[i].stripLeading().length()) + "}";
                CHECK.due(lines[i].strip() + " has more than seven parameters", lines[i].split(",").length > 7 ? 1 : 0, 0);
            } else if (start >= 0 && lines[i].equals(end)) {
                CHECK.due(lines[start].strip() + " is longer than sixty lines", i - start > 60 ? 1 : 0, 0);
                start = -1;
            }
        }
    }

    public static void main(String[] args) throws IOException {
        String text = Files.readString(SOURCE);
        for (int i = 0; i < text.length(); i++) {
            if (text.charAt(i) > 127) CHECK.due("sign " + i + " of the class", text.charAt(i), 0);
        }
        words(text.replaceAll("(?s)/\\*.*?\\*/", "").replaceAll("//[^\n]*", ""));
        methods(text.split("\n"));
        CHECK.due("the only file", Files.list(SOURCE.getParent()).count(), 1);
        CHECK.end();
    }
}
