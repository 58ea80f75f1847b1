import java.io.IOException;
import java.nio.file.Files;
import java.nio.file.Path;
import java.util.LinkedHashMap;
import java.util.Map;
import java.util.Set;
import java.util.regex.Matcher;
import java.util.regex.Pattern;

/**
 * The table of sentences, TESTS.md: each sentence in it is one of the document, under the same
 * heading; no word of the document is left out; each test that it names is there and is run.
 */
public final class TableTest {
    private static final Path DOCUMENT = Path.of("../shared/DOC.md");
    private static final Pattern TEST = Pattern.compile("(\\w+Test)\\.(\\w+)");
    private static final Pattern ROW = Pattern.compile("\\| (.*) \\| ([^|]*) \\|");
    /** FaceTest holds the whole face; nothing is asked for where nothing is promised. */
    private static final Set<String> NOT_WORD_BY_WORD = Set.of("The public face", "Not promised");

    public static void main(String[] args) throws IOException {
        String table = Files.readString(Path.of("TESTS.md"));
        namedTestsAreRun(table);
        if (Files.isRegularFile(DOCUMENT)) {
            sentences(sections(table), sections(Files.readString(DOCUMENT)));
        } else {
            System.out.println("TableTest: no " + DOCUMENT + ", so its words are not looked for");
        }
        Check.finish("TableTest");
    }

    private static void namedTestsAreRun(String table) throws IOException {
        Matcher test = TEST.matcher(table);
        while (test.find()) {
            Path file = Path.of("src/test/java", test.group(1) + ".java");
            String code = Files.isRegularFile(file) ? Files.readString(file) : "";
            String method = test.group(2);
            Check.holds(test.group() + " is there", code.contains(" static void " + method + "("));
            Check.holds(test.group() + " is run", code.contains("        " + method + "();"));
        }
    }

    private static Map<String, String> sections(String page) {
        Map<String, String> sections = new LinkedHashMap<>();
        for (String section : page.split("(?m)^## ")) {
            int end = section.indexOf('\n');
            sections.put(section.substring(0, end), section.substring(end));
        }
        return sections;
    }

    private static void sentences(Map<String, String> tables, Map<String, String> document) {
        int promises = 0;
        for (String heading : document.keySet()) {
            if (!heading.startsWith("# ")) {
                promises += heading.startsWith("Promise ") ? 1 : 0;
                Check.holds("the heading " + heading, tables.containsKey(heading));
                section(heading, tables.getOrDefault(heading, ""), words(document.get(heading)));
            }
        }
        Check.due("promises", promises, 27);
    }

    /** What the document says in a section, in one line, without what only parts or heads it. */
    private static String words(String section) {
        return section.replaceAll("(?m)^```.*$", " ").replaceAll("==== [IVX]+\\.", " ")
            .replaceFirst("^\\s*`[^`]*`: ", "").replaceAll("\\s+", " ").trim();
    }

    private static void section(String heading, String table, String words) {
        StringBuilder left = new StringBuilder(words);
        for (String line : table.lines().toList()) {
            Matcher row = ROW.matcher(line);
            if (row.matches() && !row.group(1).equals("sentence") && !row.group(1).startsWith("---")) {
                String sentence = row.group(1).replace("\\|", "|");
                Check.holds(heading + " has a test: " + sentence, TEST.matcher(row.group(2)).find());
                Check.holds(heading + " says: " + sentence, words.contains(sentence));
                strike(left, words, sentence);
            }
        }
        boolean all = NOT_WORD_BY_WORD.contains(heading) || !left.toString().matches(".*\\w.*");
        Check.holds(heading + " says also: " + left.toString().replaceAll("\\s+", " "), all);
    }

    private static void strike(StringBuilder left, String words, String sentence) {
        for (int at = words.indexOf(sentence); at >= 0; at = words.indexOf(sentence, at + 1)) {
            left.replace(at, at + sentence.length(), " ".repeat(sentence.length()));
        }
    }
}
