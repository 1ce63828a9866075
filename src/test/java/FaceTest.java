import java.lang.reflect.Constructor;
import java.lang.reflect.Field;
import java.lang.reflect.Method;
import java.lang.reflect.Modifier;
import java.util.Set;
import java.util.TreeSet;

/** The public face of the document and nothing beside it, and what LANGUAGE.md says of members. */
public final class FaceTest {
    private static final Check CHECK = new Check();
    private static final Set<String> FACE = Set.of(
        "set 3", "get 2", "twoWay 2", "turn 2", "modes 0", "support 1", "flux 2", "turnable 1", "find 1",
        "carries 2", "coupled 2", "without 1", "cutSize 1", "yieldTop 2", "yieldBottom 2");

    public static void main(String[] args) {
        Class<?> face = FluxModeEnumerator.class;
        CHECK.due("class modifiers", face.getModifiers(), Modifier.PUBLIC | Modifier.FINAL);
        CHECK.due("nested classes", face.getDeclaredClasses().length, 0);
        CHECK.due("constructors", face.getDeclaredConstructors().length, 1);
        for (Constructor<?> made : face.getDeclaredConstructors()) {
            CHECK.due("constructor modifiers", made.getModifiers(), Modifier.PUBLIC);
            CHECK.due("constructor parameters", made.getParameterCount(), 2);
            CHECK.due("constructor takes ints alone", areInts(made.getParameterTypes()) ? 1 : 0, 1);
        }
        methods(face);
        fields(face);
        CHECK.finish();
    }

    private static void methods(Class<?> face) {
        Set<String> seen = new TreeSet<>();
        Set<String> publicNames = new TreeSet<>();
        for (String method : FACE) {
            publicNames.add(method.substring(0, method.indexOf(' ')));
        }
        for (Method method : face.getDeclaredMethods()) {
            String name = method.getName();
            if (Modifier.isPrivate(method.getModifiers())) {
                CHECK.due("private method with a public name: " + name, publicNames.contains(name) ? 1 : 0, 0);
            } else {
                CHECK.due("modifiers of " + name, method.getModifiers(), Modifier.PUBLIC);
                CHECK.due("int answered by " + name, method.getReturnType() == int.class ? 1 : 0, 1);
                CHECK.due("ints alone taken by " + name, areInts(method.getParameterTypes()) ? 1 : 0, 1);
                seen.add(name + " " + method.getParameterCount());
            }
            CHECK.due("more than seven parameters: " + name, method.getParameterCount() > 7 ? 1 : 0, 0);
        }
        CHECK.due("public methods " + seen, seen.equals(FACE) ? 1 : 0, 1);
    }

    private static boolean areInts(Class<?>[] types) {
        for (Class<?> type : types) {
            if (type != int.class) {
                return false;
            }
        }
        return true;
    }

    private static void fields(Class<?> face) {
        for (Field field : face.getDeclaredFields()) {
            int modifiers = field.getModifiers();
            boolean isConstant = Modifier.isFinal(modifiers) && field.getType().isPrimitive();
            CHECK.due("private field " + field.getName(), Modifier.isPrivate(modifiers) ? 1 : 0, 1);
            CHECK.due("constant " + field.getName(), !Modifier.isStatic(modifiers) || isConstant ? 1 : 0, 1);
        }
    }
}
