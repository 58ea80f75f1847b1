import java.io.IOException;
import java.nio.file.Files;
import java.nio.file.Path;
import java.util.Set;
import java.util.TreeSet;
import java.util.regex.Matcher;
import java.util.regex.Pattern;

/** The table of sentences, TESTS.md: each test that it names is there and is run. */
public final class TableTest {
    private static final Pattern TEST = Pattern.compile("(\\w+Test)\\.(\\w+)");
    private static final Pattern PROMISE = Pattern.compile("(?m)^\\| (\\d+) \\|.*Test\\.");

    public static void main(String[] args) throws IOException {
        String table = Files.readString(Path.of("TESTS.md"));
        Matcher test = TEST.matcher(table);
        while (test.find()) {
            Path file = Path.of("src/test/java", test.group(1) + ".java");
            String code = Files.isRegularFile(file) ? Files.readString(file) : "";
            String method = test.group(2);
            Check.holds(test.group() + " is there", code.contains(" static void " + method + "("));
            Check.holds(test.group() + " is run", code.contains("        " + method + "();"));
        }
        Set<Integer> promises = new TreeSet<>();
        Matcher promise = PROMISE.matcher(table);
        while (promise.find()) {
            promises.add(Integer.parseInt(promise.group(1)));
        }
        for (int n = 1; n <= 27; n++) {
            Check.holds("promise " + n + " has a test", promises.contains(n));
        }
        Check.finish("TableTest");
    }
}
