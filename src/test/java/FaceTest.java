import java.lang.reflect.Constructor;
import java.lang.reflect.Field;
import java.lang.reflect.Method;
import java.lang.reflect.Modifier;
import java.util.Arrays;
import java.util.Set;
import java.util.TreeSet;

/** The class shows the document's face and nothing else, as rule 1 of LANGUAGE.md asks. */
public final class FaceTest {
    private static final Set<String> FACE = Set.of(
        "boolean desk [int, int, int] []",
        "boolean insert [int, int] []",
        "int remove [int] []",
        "int lines [] []",
        "int line [int] []",
        "int lock [int, int] [IndexOutOfBoundsException, IllegalStateException]",
        "int unlock [int, int] [IndexOutOfBoundsException, IllegalStateException]",
        "int checkIn [int, int] [IndexOutOfBoundsException, IllegalStateException, UnsupportedOperationException]",
        "int checkOut [int] [IndexOutOfBoundsException]",
        "boolean crashAfter [int] []",
        "void corrupt [int, int] [IndexOutOfBoundsException, IllegalArgumentException]",
        "int load [] []",
        "int revisions [] []",
        "int about [int, int] [IndexOutOfBoundsException]",
        "int name [int, int] [IndexOutOfBoundsException]",
        "int root [int, int] [IndexOutOfBoundsException]",
        "int compare [int] [IndexOutOfBoundsException]",
        "int step [int, int] []",
        "int size [boolean] []",
        "int at [int, boolean] []");

    public static void main(String[] args) {
        Checks checks = new Checks();
        Class<?> type = DeltaHistory.class;
        checks.due("the class's modifiers", "public final", () -> Modifier.toString(type.getModifiers()));
        Set<String> shown = new TreeSet<>();
        Set<String> names = new TreeSet<>();
        for (Method method : type.getDeclaredMethods()) {
            if (!Modifier.isPrivate(method.getModifiers())) {
                shown.add(written(method));
                names.add(method.getName());
            }
        }
        checks.due("the methods", new TreeSet<>(FACE), () -> shown);
        for (Method method : type.getDeclaredMethods()) {
            boolean isPrivate = Modifier.isPrivate(method.getModifiers());
            checks.due("private with a public name: " + method, false,
                () -> isPrivate && names.contains(method.getName()));
        }
        Set<String> fields = new TreeSet<>();
        for (Field field : type.getDeclaredFields()) {
            if (!Modifier.isPrivate(field.getModifiers())) {
                fields.add(Modifier.toString(field.getModifiers()) + " " + field.getType() + " " + field.getName());
            }
        }
        checks.due("the constants", "[public static final int CRASHED, public static final int NONE]", () -> fields);
        Constructor<?>[] constructors = type.getDeclaredConstructors();
        checks.due("the constructors", "[public DeltaHistory()]", () -> Arrays.toString(constructors));
        for (Class<?> inside : type.getDeclaredClasses()) {
            int modifiers = inside.getModifiers();
            checks.due("shown and not static: " + inside, false, () -> !Modifier.isStatic(modifiers)
                || Modifier.isPublic(modifiers) || Modifier.isProtected(modifiers));
        }
        checks.end();
    }

    private static String written(Method method) {
        return method.getReturnType() + " " + method.getName() + " "
            + Arrays.toString(method.getParameterTypes()) + " "
            + Arrays.stream(method.getExceptionTypes()).map(Class::getSimpleName).toList();
    }
}
