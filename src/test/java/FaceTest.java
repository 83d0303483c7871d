import java.lang.reflect.Constructor;
import java.lang.reflect.Field;
import java.lang.reflect.Method;
import java.lang.reflect.Modifier;
import java.util.Arrays;
import java.util.List;
import java.util.Set;
import java.util.TreeSet;

/** The public face is the document's, and nothing else of the class can be seen from outside. */
final class FaceTest {
    private static final List<String> FACE = List.of(
        "boolean corner [int, long, long]",
        "boolean ring [int]",
        "boolean hole [int]",
        "boolean bars [int, int, int, int]",
        "boolean speed [int, long]",
        "int report [long, long, long, int]",
        "int track []",
        "boolean place [int, long, long, long]",
        "int run [int, int]",
        "long entry [int, int]",
        "int side [int]",
        "long inside [int, int, int]",
        "boolean maybe [int, int]",
        "int buffer [int, long]",
        "boolean told [int, long]",
        "int overlap [int, int]",
        "int cell [int, int, long]");

    public static void main(String[] args) throws NoSuchMethodException {
        Check check = new Check("the public face");
        Class<?> face = AreaCrossings.class;
        check.due("final", Modifier.isFinal(face.getModifiers()), true);
        check.due("public", Modifier.isPublic(face.getModifiers()), true);
        dueMethods(check, face);
        for (Field field : face.getDeclaredFields()) {
            check.due("private field " + field.getName(), Modifier.isPrivate(field.getModifiers()), true);
        }
        for (Constructor<?> made : face.getDeclaredConstructors()) {
            check.due("constructor", Arrays.toString(made.getParameterTypes()).equals("[int]"), true);
            check.due("public constructor", Modifier.isPublic(made.getModifiers()), true);
        }
        Method corner = face.getMethod("corner", int.class, long.class, long.class);
        check.due("corner throws", Arrays.equals(corner.getExceptionTypes(),
            new Class<?>[] {ArrayIndexOutOfBoundsException.class}), true);
        for (Class<?> inner : face.getDeclaredClasses()) {
            check.due("static class " + inner.getName(), Modifier.isStatic(inner.getModifiers()), true);
            check.due("hidden class " + inner.getName(), Modifier.isPublic(inner.getModifiers()), false);
        }
        check.end();
    }

    private static void dueMethods(Check check, Class<?> face) {
        Set<String> seen = new TreeSet<>();
        Set<String> names = new TreeSet<>();
        for (Method method : face.getDeclaredMethods()) {
            if (Modifier.isPublic(method.getModifiers())) {
                names.add(method.getName());
                seen.add(method.getReturnType() + " " + method.getName() + " " + Arrays.toString(method.getParameterTypes()));
            }
        }
        check.due("methods " + seen, seen.equals(new TreeSet<>(FACE)), true);
        for (Method method : face.getDeclaredMethods()) {
            if (!Modifier.isPublic(method.getModifiers())) {
                check.due("private method " + method.getName(), Modifier.isPrivate(method.getModifiers()), true);
                check.due("a name of its own " + method.getName(), names.contains(method.getName()), false);
            }
        }
    }
}
