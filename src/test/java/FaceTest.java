import java.lang.reflect.Constructor;
import java.lang.reflect.Field;
import java.lang.reflect.Method;
import java.lang.reflect.Modifier;
import java.util.Arrays;
import java.util.Set;
import java.util.TreeSet;

/** The class has the document's public face and no other member that is not private. */
public final class FaceTest {
    private static final Set<String> FACE = new TreeSet<>(Arrays.asList(
        "int BAD", "int FULL", "MarchTester()",
        "int march(int)", "int op(int)", "int drop()", "boolean turn(int)", "int marches()",
        "boolean sound()", "int steps()", "boolean finds(int, int, int)", "int found(int)",
        "int covered()", "int foundFrom(int, int, int)", "int spare()"));

    private static String types(Class<?>[] parameters) {
        return Arrays.toString(parameters).replace('[', '(').replace(']', ')');
    }

    public static void main(String[] args) {
        Due due = new Due();
        due.promise("face");
        Class<?> type = MarchTester.class;
        Set<String> seen = new TreeSet<>();
        for (Field field : type.getDeclaredFields()) {
            int modifiers = field.getModifiers();
            if (!Modifier.isPrivate(modifiers)) {
                seen.add(field.getType() + " " + field.getName());
                due.is(field.getName() + " public, static and final",
                    Modifier.isPublic(modifiers) && Modifier.isStatic(modifiers) && Modifier.isFinal(modifiers), true);
            }
        }
        for (Constructor<?> constructor : type.getDeclaredConstructors()) {
            due.is("constructor public", Modifier.isPublic(constructor.getModifiers()), true);
            seen.add("MarchTester" + types(constructor.getParameterTypes()));
        }
        for (Method method : type.getDeclaredMethods()) {
            int modifiers = method.getModifiers();
            if (!Modifier.isPrivate(modifiers)) {
                seen.add(method.getReturnType() + " " + method.getName() + types(method.getParameterTypes()));
                due.is(method.getName() + " public and of the object",
                    Modifier.isPublic(modifiers) && !Modifier.isStatic(modifiers), true);
            }
        }
        due.is("members seen " + seen + " are those of the face", seen.equals(FACE), true);
        due.is("class public and final",
            Modifier.isPublic(type.getModifiers()) && Modifier.isFinal(type.getModifiers()), true);
        due.is("nested classes", type.getDeclaredClasses().length, 0);
        due.is("BAD", MarchTester.BAD, -1);
        due.is("FULL", MarchTester.FULL, -2);
        due.end();
    }
}
