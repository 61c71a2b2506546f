import java.lang.reflect.Constructor;
import java.lang.reflect.Field;
import java.lang.reflect.Method;
import java.lang.reflect.Modifier;
import java.util.Arrays;
import java.util.Set;
import java.util.TreeSet;

/** The class shows the constants, the constructor and the methods of the document, and nothing else. */
public final class FaceTest {
    private static int wrong = 0;

    public static void main(String[] args) {
        due("class", Modifier.toString(UndoReader.class.getModifiers()), "public final");
        due("nested classes", UndoReader.class.getDeclaredClasses().length, 0);
        due("constants", constants(), new TreeSet<>(Set.of(
            "int OK = 0", "int BAD = -1", "int LOCKED = -2", "int FULL = -3", "int NONE = -4",
            "int TOO_OLD = -2000000000")));
        due("constructors", constructors(), new TreeSet<>(Set.of("public UndoReader()")));
        due("methods", methods(), new TreeSet<>(Set.of(
            "public int change(int, int, int)", "public int commit(int)", "public int rollback(int)",
            "public int clock()", "public int read(int, int, int)", "public int raw(int)",
            "public int holder(int)", "public int locks(int)", "public int remembered()",
            "public int changes(int)", "public int oldest(int)", "public int changedSince(int)")));
        System.out.println(wrong == 0 ? "the face is as due" : wrong + " parts of the face are not as due");
        if (wrong != 0) {
            System.exit(1);
        }
    }

    private static void due(String what, Object got, Object want) {
        if (!got.equals(want)) {
            wrong++;
            System.out.println(what + ": found " + got + ", due is " + want);
        }
    }

    private static Set<String> constants() {
        Set<String> found = new TreeSet<>();
        for (Field field : UndoReader.class.getDeclaredFields()) {
            if (Modifier.isPrivate(field.getModifiers())) {
                continue;
            }
            if (!Modifier.toString(field.getModifiers()).equals("public static final")) {
                found.add(field.toString());
                continue;
            }
            found.add(field.getType() + " " + field.getName() + " = " + valueOf(field));
        }
        return found;
    }

    private static Object valueOf(Field field) {
        try {
            return field.get(null);
        } catch (IllegalAccessException e) {
            return "not to be read";
        }
    }

    private static Set<String> constructors() {
        Set<String> found = new TreeSet<>();
        for (Constructor<?> constructor : UndoReader.class.getDeclaredConstructors()) {
            found.add(Modifier.toString(constructor.getModifiers()) + " UndoReader"
                + parameters(constructor.getParameterTypes()));
        }
        return found;
    }

    private static Set<String> methods() {
        Set<String> found = new TreeSet<>();
        for (Method method : UndoReader.class.getDeclaredMethods()) {
            if (!Modifier.isPrivate(method.getModifiers())) {
                found.add(Modifier.toString(method.getModifiers()) + " " + method.getReturnType() + " "
                    + method.getName() + parameters(method.getParameterTypes()));
            }
        }
        return found;
    }

    private static String parameters(Class<?>[] types) {
        return Arrays.toString(types).replace('[', '(').replace(']', ')');
    }
}
