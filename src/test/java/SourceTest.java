import java.io.IOException;
import java.lang.reflect.Field;
import java.lang.reflect.Method;
import java.lang.reflect.Modifier;
import java.nio.file.Files;
import java.nio.file.Path;
import java.util.ArrayList;
import java.util.List;
import java.util.Set;
import java.util.TreeSet;
import java.util.regex.Matcher;
import java.util.regex.Pattern;

/** Some of the rules of LANGUAGE.md that can be seen in the source. */
public final class SourceTest {
    private static final Path SOURCE = Path.of("src/main/java/OffsetBook.java");

    public static void main(String[] args) throws IOException {
        String code = Files.readString(SOURCE).replaceAll("(?s)/\\*.*?\\*/", "").replaceAll("//.*", "");
        forbidden(code);
        methods(code.lines().toList());
        classes();
        Check.finish("SourceTest");
    }

    private static void forbidden(String code) {
        String[] words = {"\\btry\\b", "\\bcatch\\b", "\\bthrow\\b", "\\bfinally\\b", "\\bsynchronized\\b",
            "\\bassert\\b", "->", "::", "\\bpackage\\b", "\\bprotected\\b", "Double\\.", "Float\\.", "Exact\\(",
            "\\bequals\\b", "\\bhashCode\\b", "\\btoString\\b", "\\bSystem\\.(?!arraycopy)",
            "import (?!java\\.util\\.Arrays;)", "static (?!final|boolean|long|int)"};
        for (String word : words) {
            Matcher matcher = Pattern.compile(word).matcher(code);
            Check.holds("no " + word, !matcher.find());
        }
    }

    private static void methods(List<String> lines) {
        int begin = 0;
        for (int n = 0; n < lines.size(); n++) {
            if (lines.get(n).matches(" {4,8}[a-z].*\\) \\{")) {
                begin = n;
                Check.holds("seven parameters: " + lines.get(n), lines.get(n).split(",").length <= 7);
            }
            if (lines.get(n).matches(" {4,8}\\}") && begin > 0) {
                Check.holds("sixty lines: " + lines.get(begin), n - begin < 60);
                begin = 0;
            }
        }
    }

    /** Rules 1, 2, 5 and 11, of the class and those inside it. */
    private static void classes() {
        List<Class<?>> classes = new ArrayList<>(List.of(OffsetBook.class.getDeclaredClasses()));
        for (Class<?> inside : classes) {
            Check.holds(inside + " is static and not public", Modifier.isStatic(inside.getModifiers())
                && !Modifier.isPublic(inside.getModifiers()) && !Modifier.isProtected(inside.getModifiers()));
        }
        classes.add(OffsetBook.class);
        Check.holds("twelve classes", classes.size() <= 12);
        Set<String> face = new TreeSet<>();
        for (Method method : OffsetBook.class.getDeclaredMethods()) {
            if (Modifier.isPublic(method.getModifiers())) {
                face.add(method.getName());
            }
        }
        for (Class<?> one : classes) {
            for (Method method : one.getDeclaredMethods()) {
                boolean ofFace = Modifier.isPublic(method.getModifiers());
                Check.holds("another name than one of the face: " + method, ofFace || !face.contains(method.getName()));
            }
            fields(one);
        }
    }

    private static void fields(Class<?> one) {
        int own = 0;
        for (Field field : one.getDeclaredFields()) {
            boolean isStatic = Modifier.isStatic(field.getModifiers());
            own += isStatic ? 0 : 1;
            Check.holds(field + " is a constant", !isStatic || Modifier.isFinal(field.getModifiers())
                && (field.getType() == int.class || field.getType() == long.class));
        }
        Check.holds("twenty fields: " + one, own <= 20);
    }
}
