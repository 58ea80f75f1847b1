import java.lang.reflect.Constructor;
import java.lang.reflect.Field;
import java.lang.reflect.Method;
import java.lang.reflect.Modifier;
import java.util.Set;
import java.util.TreeSet;

/** The public face, and promise 1. */
public final class FaceTest {
    private static final String[] FACE = {
        "int feed(int,int,int,int,int)", "int end(int)", "int tell()", "int test()",
        "int retract(int)", "int restore(int)", "int undo()", "int statement(int,int)",
        "long amount(int)", "int gauge()", "int letter(int,int)", "long difference(int,int)",
        "long offset(int)", "int group(int,int)", "int order(int,int)", "long span(int)",
        "long mean(int)", "int twos(long)", "int chain(int,int,int)", "int cut(int,int)",
        "int blame(int)", "int pin(int,int,int)", "int pinned(int,int)", "int image(int)",
        "int back(int)", "int count(int)"};

    public static void main(String[] args) throws ReflectiveOperationException {
        members();
        newObject();
        Check.finish("FaceTest");
    }

    private static void members() throws ReflectiveOperationException {
        Class<?> face = OffsetBook.class;
        Check.holds("public final", Modifier.isPublic(face.getModifiers())
            && Modifier.isFinal(face.getModifiers()));
        Set<String> seen = new TreeSet<>();
        for (Method method : face.getDeclaredMethods()) {
            if (!Modifier.isPrivate(method.getModifiers())) {
                Check.holds(method + " is public, of the object",
                    method.getModifiers() == Modifier.PUBLIC);
                seen.add(signature(method));
            }
        }
        Check.holds("the methods of the face: " + seen, seen.equals(Set.of(FACE)));
        for (Field field : face.getDeclaredFields()) {
            boolean ofFace = field.getName().equals("NONE") || field.getName().equals("NOTHING");
            Check.holds(field.toString(), ofFace == Modifier.isPublic(field.getModifiers())
                && ofFace != Modifier.isPrivate(field.getModifiers()));
        }
        Constructor<?>[] constructors = face.getDeclaredConstructors();
        Check.due("constructors", constructors.length, 1);
        Check.holds("constructor", Modifier.isPublic(constructors[0].getModifiers())
            && constructors[0].getParameterCount() == 0);
        Check.due("NONE", OffsetBook.NONE, -1);
        Check.due("NOTHING", OffsetBook.NOTHING, Long.MIN_VALUE);
        Check.holds("int NONE", face.getField("NONE").getType() == int.class);
        Check.holds("long NOTHING", face.getField("NOTHING").getType() == long.class);
    }

    private static String signature(Method method) {
        StringBuilder text = new StringBuilder();
        for (Class<?> type : method.getParameterTypes()) {
            text.append(text.length() == 0 ? "" : ",").append(type);
        }
        return method.getReturnType() + " " + method.getName() + "(" + text + ")";
    }

    private static void newObject() {
        OffsetBook book = new OffsetBook();
        int[] counts = {1, 0, 0, 0, 0, 0, 0, 1, 0, 0, 0, 0};
        for (int what = 0; what < counts.length; what++) {
            Check.due("count(" + what + ") of a new one", book.count(what), counts[what]);
        }
        Check.due("group(0, 0)", book.group(0, 0), 0);
        Check.due("group(0, 1)", book.group(0, 1), 1);
        Check.due("group(1, 0)", book.group(1, 0), -1);
        Check.due("offset(0)", book.offset(0), 0);
        Check.due("offset(1)", book.offset(1), Long.MIN_VALUE);
        Check.due("difference(0, 0)", book.difference(0, 0), 0);
        Check.due("order(0, 0)", book.order(0, 0), 0);
        Check.due("order(0, 1)", book.order(0, 1), -2);
        Check.due("chain(0, 0, NONE)", book.chain(0, 0, -1), 0);
        Check.due("chain(0, 0, 0)", book.chain(0, 0, 0), -2);
        Check.due("span(0)", book.span(0), 0);
        Check.due("mean(0)", book.mean(0), 0);
        Check.due("twos(0)", book.twos(0), 0);
        Check.due("undo()", book.undo(), -1);
        Check.due("back(0)", book.back(0), -1);
        Check.due("blame(0)", book.blame(0), -2);
        Check.due("pinned(0, 0)", book.pinned(0, 0), -2);
        Check.due("retract(0)", book.retract(0), -1);
        Check.due("restore(0)", book.restore(0), -1);
        Check.due("statement(0, 0)", book.statement(0, 0), -1);
        Check.due("amount(0)", book.amount(0), Long.MIN_VALUE);
        Check.due("tell()", book.tell(), -3);
        Check.due("test()", book.test(), -3);
        Check.due("gauge()", book.gauge(), -1);
    }
}
