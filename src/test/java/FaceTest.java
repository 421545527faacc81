import java.lang.reflect.Constructor;
import java.lang.reflect.Field;
import java.lang.reflect.Method;
import java.lang.reflect.Modifier;
import java.util.HashSet;
import java.util.Map;
import java.util.Set;

/** The class shows the constructor and methods of the document, and nothing else. */
public final class FaceTest {
    private static final Map<String, Integer> PARAMETERS = Map.of(
            "gate", 2, "next", 2, "begin", 2, "bad", 1, "value", 3,
            "depth", 1, "holds", 1, "proof", 0, "witness", 1, "input", 1);
    private static final Check check = new Check();

    private FaceTest() {
    }

    public static void main(String[] args) {
        check.part("face");
        Class<InductionDesk> desk = InductionDesk.class;
        check.due("public and final", desk.getModifiers(), Modifier.PUBLIC | Modifier.FINAL);
        check.due("nested classes", desk.getDeclaredClasses().length, 0);
        constructors(desk);
        methods(desk);
        for (Field field : desk.getDeclaredFields()) {
            check.due("private " + field.getName(), truth(Modifier.isPrivate(field.getModifiers())), 1);
        }
        check.end();
    }

    private static void constructors(Class<InductionDesk> desk) {
        check.due("constructors", desk.getDeclaredConstructors().length, 1);
        for (Constructor<?> constructor : desk.getDeclaredConstructors()) {
            check.due("public constructor", truth(Modifier.isPublic(constructor.getModifiers())), 1);
            check.due("its parameters", constructor.getParameterCount(), 0);
        }
    }

    private static void methods(Class<InductionDesk> desk) {
        Set<String> shown = new HashSet<>();
        for (Method method : desk.getDeclaredMethods()) {
            String name = method.getName();
            if (PARAMETERS.containsKey(name)) {
                check.due("met once: " + name, truth(shown.add(name)), 1);
                check.due("public " + name, method.getModifiers(), Modifier.PUBLIC);
                check.due("answers int: " + name, truth(method.getReturnType() == int.class), 1);
                check.due("parameters of " + name, method.getParameterCount(), PARAMETERS.get(name));
                for (Class<?> parameter : method.getParameterTypes()) {
                    check.due("takes int: " + name, truth(parameter == int.class), 1);
                }
            } else {
                check.due("private " + name, truth(Modifier.isPrivate(method.getModifiers())), 1);
            }
        }
        check.due("methods shown", shown.size(), PARAMETERS.size());
    }

    private static int truth(boolean value) {
        return value ? 1 : 0;
    }
}
