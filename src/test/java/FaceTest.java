import java.lang.reflect.Constructor;
import java.lang.reflect.Field;
import java.lang.reflect.Method;
import java.lang.reflect.Modifier;
import java.util.Set;
import java.util.TreeSet;

/** The public face of the document, and the rules of the language that a class file can show. */
public final class FaceTest {
    private static final Due due = new Due();

    public static void main(String[] args) {
        Class<?> face = RecordLocks.class;
        due.is("modifiers", Modifier.PUBLIC | Modifier.FINAL, face.getModifiers());
        due.is("nested classes", 0, face.getDeclaredClasses().length);
        due.is("superclass", Object.class, face.getSuperclass());
        due.is("interfaces", 0, face.getInterfaces().length);
        constructors(face);
        methods(face);
        fields(face);
        due.end();
    }

    private static void constructors(Class<?> face) {
        due.is("constructors", 1, face.getDeclaredConstructors().length);
        for (Constructor<?> made : face.getDeclaredConstructors()) {
            due.is("the constructor", "public RecordLocks()", made.toString());
        }
    }

    private static void methods(Class<?> face) {
        String[] names = {
            "await(int,int,int,int)", "ahead(int)", "cancel(int)", "close(int)", "count(int,int)", "free()",
            "holders(int)", "lock(int,int,int,int)", "lockAt(int,int)", "obstacle(int,int,int,int)",
            "pieceEnd(int,int)", "pieceStart(int,int)", "pieceType(int,int)", "pieces(int)", "waiting(int)",
            "waitsFor(int)", "wouldCircle(int,int,int,int)"};
        Set<String> want = new TreeSet<>();
        for (String name : names) {
            want.add("public int RecordLocks." + name);
        }
        Set<String> got = new TreeSet<>();
        Set<String> open = new TreeSet<>();
        for (Method method : face.getDeclaredMethods()) {
            if (!Modifier.isPrivate(method.getModifiers())) {
                got.add(method.toString());
                open.add(method.getName());
            }
        }
        due.is("methods that are not private", want, got);
        for (Method method : face.getDeclaredMethods()) {
            if (Modifier.isPrivate(method.getModifiers())) {
                due.is("a public method has the name of " + method, false, open.contains(method.getName()));
                due.is("seven parameters at most: " + method, true, method.getParameterCount() <= 7);
            }
        }
    }

    private static void fields(Class<?> face) {
        Set<String> open = new TreeSet<>();
        for (Field field : face.getDeclaredFields()) {
            if (!Modifier.isPrivate(field.getModifiers())) {
                open.add(field.toString());
            }
            if (Modifier.isStatic(field.getModifiers())) {
                due.is("a constant: " + field, true, Modifier.isFinal(field.getModifiers()));
                due.is("a constant of int: " + field, int.class, field.getType());
            } else {
                Class<?> type = field.getType();
                Class<?> element = type.isArray() ? type.getComponentType() : type;
                due.is("whole numbers or arrays of them: " + field, true, element.isPrimitive());
            }
        }
        due.is("fields that are not private", Set.of(
            "public static final int RecordLocks.NONE",
            "public static final int RecordLocks.READ",
            "public static final int RecordLocks.WRITE"), open);
    }
}
