import java.io.IOException;
import java.nio.file.Files;
import java.nio.file.Path;
import java.util.List;
import java.util.regex.Matcher;
import java.util.regex.Pattern;

/** Some of the rules of LANGUAGE.md that can be seen in the source. */
public final class SourceTest {
    private static final Path SOURCE = Path.of("src/main/java/OffsetBook.java");

    public static void main(String[] args) throws IOException {
        String code = Files.readString(SOURCE).replaceAll("(?s)/\\*.*?\\*/", "").replaceAll("//.*", "");
        forbidden(code);
        methods(code.lines().toList());
        Check.finish("SourceTest");
    }

    private static void forbidden(String code) {
        String[] words = {"\\btry\\b", "\\bcatch\\b", "\\bthrow\\b", "\\bfinally\\b", "\\bsynchronized\\b",
            "\\bassert\\b", "->", "::", "\\bpackage\\b", "\\bprotected\\b", "Double\\.", "Float\\.", "Exact\\(",
            "\\bequals\\b", "\\bhashCode\\b", "\\btoString\\b", "\\bSystem\\.(?!arraycopy)",
            "import (?!java\\.util\\.Arrays;)", "static (?!final|boolean|long|int)"};
        for (String word : words) {
            Matcher matcher = Pattern.compile(word).matcher(code);
            Check.holds("no " + word, !matcher.find());
        }
    }

    private static void methods(List<String> lines) {
        int begin = 0;
        for (int n = 0; n < lines.size(); n++) {
            if (lines.get(n).matches(" {4,8}[a-z].*\\) \\{")) {
                begin = n;
                Check.holds("seven parameters: " + lines.get(n), lines.get(n).split(",").length <= 7);
            }
            if (lines.get(n).matches(" {4,8}\\}") && begin > 0) {
                Check.holds("sixty lines: " + lines.get(begin), n - begin < 60);
                begin = 0;
            }
        }
    }
}
