import java.lang.reflect.Constructor;
import java.lang.reflect.Field;
import java.lang.reflect.Method;
import java.lang.reflect.Modifier;
import java.util.Arrays;
import java.util.HashSet;
import java.util.Set;
import java.util.TreeSet;

/** The class has the public face of the document and nothing else that can be seen. */
public final class FaceTest {
    private static final Set<String> FACE = new TreeSet<>(Arrays.asList(
            "add(1)", "fill(1)", "undo(0)", "size(0)", "piece(1)", "pieces(2)", "holes(2)",
            "lasting(3)", "opens(1)", "partner(1)", "forever(1)", "longest(1)", "euler(1)",
            "border(1)", "bounds(1)"));

    public static void main(String[] args) {
        Checks checks = new Checks();
        Class<PersistentBars> face = PersistentBars.class;
        checks.due("public and final class", face.getModifiers(), Modifier.PUBLIC | Modifier.FINAL);
        checks.due("nested classes", face.getDeclaredClasses().length, 0);
        checkConstructors(checks, face.getDeclaredConstructors());
        checkMethods(checks, face.getDeclaredMethods());
        for (Field field : face.getDeclaredFields()) {
            checks.due("field " + field.getName() + " is private", privately(field.getModifiers()), 1);
        }
        checks.end();
    }

    private static void checkConstructors(Checks checks, Constructor<?>[] constructors) {
        checks.due("constructors", constructors.length, 1);
        checks.due("constructor's parameters", constructors[0].getParameterCount(), 0);
        checks.due("constructor's modifiers", constructors[0].getModifiers(), Modifier.PUBLIC);
    }

    private static void checkMethods(Checks checks, Method[] methods) {
        Set<String> publicNames = new HashSet<>();
        Set<String> seen = new TreeSet<>();
        for (Method method : methods) {
            if (privately(method.getModifiers()) == 0) {
                checks.due(method.getName() + " is public only", method.getModifiers(), Modifier.PUBLIC);
                checks.due(method.getName() + " is of ints", ofInts(method), 1);
                publicNames.add(method.getName());
                seen.add(method.getName() + "(" + method.getParameterCount() + ")");
            }
        }
        checks.due("the public methods are " + seen + ", which", seen.equals(FACE) ? 1 : 0, 1);
        for (Method method : methods) {
            if (privately(method.getModifiers()) == 1) {
                checks.due("private " + method.getName() + " bears a public name",
                        publicNames.contains(method.getName()) ? 1 : 0, 0);
            }
        }
    }

    private static int ofInts(Method method) {
        boolean all = method.getReturnType() == int.class;
        for (Class<?> type : method.getParameterTypes()) {
            all = all && type == int.class;
        }
        return all ? 1 : 0;
    }

    private static int privately(int modifiers) {
        return Modifier.isPrivate(modifiers) ? 1 : 0;
    }
}
