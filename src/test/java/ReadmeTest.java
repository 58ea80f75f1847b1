import java.io.IOException;
import java.lang.reflect.Method;
import java.lang.reflect.Modifier;
import java.nio.charset.StandardCharsets;
import java.nio.file.DirectoryStream;
import java.nio.file.Files;
import java.nio.file.Path;
import java.util.Set;
import java.util.TreeSet;
import java.util.regex.Matcher;
import java.util.regex.Pattern;

/** README.md: each call in it gives the answer behind it, and no call and no test is left out. */
public final class ReadmeTest {
    private static final Pattern CALL = Pattern.compile(
        "(Double\\.longBitsToDouble\\()?book\\.(\\w+)\\(([^)]*)\\)\\)?; +// ([-.\\w]+)(?::(.*))?");
    private static final Pattern QUOTED = Pattern.compile("\"([^\"]*)\"");
    private static final String NEW = "OffsetBook book = new OffsetBook();";

    private static OffsetBook book = null;
    private static final Set<String> CALLED = new TreeSet<>();

    public static void main(String[] args) throws IOException, ReflectiveOperationException {
        String readme = Files.readString(Path.of("README.md"));
        callsAndAnswers(readme);
        everyCallIsShown();
        everyTestIsNamed(readme);
        Check.finish("ReadmeTest");
    }

    private static void callsAndAnswers(String readme) throws ReflectiveOperationException {
        boolean code = false;
        for (String line : readme.lines().toList()) {
            if (line.startsWith("```")) {
                code = line.equals("```java");
            } else if (code && line.equals(NEW)) {
                book = new OffsetBook();
            } else if (code) {
                Matcher call = CALL.matcher(line);
                boolean fits = call.matches() && book != null;
                Check.holds("a call and its answer: " + line, fits);
                if (fits) {
                    answers(call);
                }
            }
        }
    }

    private static void answers(Matcher call) throws ReflectiveOperationException {
        Method method = methodOf(call.group(2));
        String[] words = call.group(3).isEmpty() ? new String[0] : call.group(3).split(", *");
        Check.due("how many " + method.getName() + " takes", words.length, method.getParameterCount());
        Object[] given = new Object[words.length];
        for (int n = 0; n < words.length; n++) {
            long number = numberOf(words[n].replace("OffsetBook.", ""));
            given[n] = method.getParameterTypes()[n] == long.class ? (Object) number : (Object) (int) number;
        }
        long got = ((Number) method.invoke(book, given)).longValue();
        boolean isDouble = call.group(1) != null;
        long due = isDouble ? Double.doubleToLongBits(Double.parseDouble(call.group(4))) : numberOf(call.group(4));
        Check.due(call.group(), got, due);
        CALLED.add(method.getName());
        if (method.getName().equals("feed")) {
            bytesAreQuoted(call.group(5) == null ? "" : call.group(5), given);
        }
    }

    private static Method methodOf(String name) {
        for (Method method : OffsetBook.class.getMethods()) {
            if (method.getName().equals(name)) {
                return method;
            }
        }
        throw new IllegalArgumentException(name);
    }

    private static long numberOf(String word) {
        switch (word) {
            case "NONE": return OffsetBook.NONE;
            case "NOTHING": return OffsetBook.NOTHING;
            default: return Long.decode(word);
        }
    }

    /** The text that README.md tells beside a feed is what was fed, with zeros behind it. */
    private static void bytesAreQuoted(String told, Object[] given) {
        byte[] bytes = new byte[20];
        for (int n = 0; n < bytes.length; n++) {
            bytes[n] = (byte) ((Integer) given[n / 4] >> 24 - 8 * (n % 4));
        }
        String fed = new String(bytes, StandardCharsets.ISO_8859_1).replaceAll("\0+$", "");
        Matcher quoted = QUOTED.matcher(told);
        Check.holds(fed + " is fed: " + told, quoted.find() && quoted.group(1).equals(fed));
    }

    private static void everyCallIsShown() {
        for (Method method : OffsetBook.class.getDeclaredMethods()) {
            if (Modifier.isPublic(method.getModifiers())) {
                Check.holds(method.getName() + " is shown", CALLED.contains(method.getName()));
            }
        }
    }

    private static void everyTestIsNamed(String readme) throws IOException {
        try (DirectoryStream<Path> files = Files.newDirectoryStream(Path.of("src/test/java"), "*Test.java")) {
            for (Path file : files) {
                String test = file.getFileName().toString().replace(".java", "");
                Check.holds(test + " is named", readme.contains("| " + test + " |"));
            }
        }
    }
}
