import java.lang.reflect.Constructor;
import java.lang.reflect.Field;
import java.lang.reflect.Method;
import java.lang.reflect.Modifier;
import java.util.Set;
import java.util.TreeSet;

/** The public face, with its constants. */
public final class FaceTest {
    private static final String[] FACE = {
        "int feed(int,int,int,int,int)", "int end(int)", "int tell()", "int test()",
        "int retract(int)", "int restore(int)", "int undo()", "int statement(int,int)",
        "long amount(int)", "int gauge()", "int letter(int,int)", "long difference(int,int)",
        "long offset(int)", "int group(int,int)", "int order(int,int)", "long span(int)",
        "long mean(int)", "int twos(long)", "int chain(int,int,int)", "int cut(int,int)",
        "int blame(int)", "int pin(int,int,int)", "int pinned(int,int)", "int image(int)",
        "int back(int)", "int count(int)"};

    public static void main(String[] args) throws ReflectiveOperationException {
        members();
        Check.finish("FaceTest");
    }

    private static void members() throws ReflectiveOperationException {
        Class<?> face = OffsetBook.class;
        Check.holds("public final", Modifier.isPublic(face.getModifiers())
            && Modifier.isFinal(face.getModifiers()));
        Set<String> seen = new TreeSet<>();
        for (Method method : face.getDeclaredMethods()) {
            if (!Modifier.isPrivate(method.getModifiers())) {
                Check.holds(method + " is public, of the object",
                    method.getModifiers() == Modifier.PUBLIC);
                seen.add(signature(method));
            }
        }
        Check.holds("the methods of the face: " + seen, seen.equals(Set.of(FACE)));
        for (Field field : face.getDeclaredFields()) {
            boolean ofFace = field.getName().equals("NONE") || field.getName().equals("NOTHING");
            Check.holds(field.toString(), ofFace == Modifier.isPublic(field.getModifiers())
                && ofFace != Modifier.isPrivate(field.getModifiers()));
        }
        Constructor<?>[] constructors = face.getDeclaredConstructors();
        Check.due("constructors", constructors.length, 1);
        Check.holds("constructor", Modifier.isPublic(constructors[0].getModifiers())
            && constructors[0].getParameterCount() == 0);
        Check.due("NONE", OffsetBook.NONE, -1);
        Check.due("NOTHING", OffsetBook.NOTHING, Long.MIN_VALUE);
        Check.holds("int NONE", face.getField("NONE").getType() == int.class);
        Check.holds("long NOTHING", face.getField("NOTHING").getType() == long.class);
    }

    private static String signature(Method method) {
        StringBuilder text = new StringBuilder();
        for (Class<?> type : method.getParameterTypes()) {
            text.append(text.length() == 0 ? "" : ",").append(type);
        }
        return method.getReturnType() + " " + method.getName() + "(" + text + ")";
    }
}
