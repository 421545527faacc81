import java.io.IOException;
import java.lang.reflect.Method;
import java.lang.reflect.Modifier;
import java.nio.file.Files;
import java.nio.file.Path;
import java.util.Map;
import java.util.Set;
import java.util.TreeMap;
import java.util.TreeSet;
import java.util.regex.Matcher;
import java.util.regex.Pattern;

/**
 * The calls that README.md shows answer as README.md says. Its Java parts are read as one row of
 * lines; each is a new object or a call in the form: desk.name(numbers); // answer: why
 */
public final class ReadmeTest {
    private static final Path README = Path.of("README.md");
    private static final Pattern JAVA_PART = Pattern.compile("^```java\n(.*?)^```$", Pattern.MULTILINE | Pattern.DOTALL);
    private static final Pattern NEW_OBJECT = Pattern.compile("InductionDesk desk = new InductionDesk\\(\\);");
    private static final Pattern CALL = Pattern.compile("desk\\.(\\w+)\\(([-\\d, ]*)\\); *// (-?\\d+): .+");

    private static final Check check = new Check();
    private static final Map<String, Method> methods = new TreeMap<>();
    private static final Set<String> shown = new TreeSet<>();
    private static InductionDesk desk;

    private ReadmeTest() {
    }

    public static void main(String[] args) throws IOException, ReflectiveOperationException {
        check.part("README.md");
        for (Method method : InductionDesk.class.getDeclaredMethods()) {
            if (Modifier.isPublic(method.getModifiers())) {
                methods.put(method.getName(), method);
            }
        }
        Matcher part = JAVA_PART.matcher(Files.readString(README));
        while (part.find()) {
            for (String line : part.group(1).split("\n")) {
                follow(line);
            }
        }
        for (String name : methods.keySet()) {
            check.due("shows " + name, shown.contains(name) ? 1 : 0, 1);
        }
        check.end();
    }

    private static void follow(String line) throws ReflectiveOperationException {
        Matcher call = CALL.matcher(line);
        if (NEW_OBJECT.matcher(line).matches()) {
            desk = new InductionDesk();
        } else if (call.matches() && methods.containsKey(call.group(1))) {
            makeCall(line, call.group(1), call.group(2), Integer.parseInt(call.group(3)));
        } else {
            check.due("a call with its answer: " + line, line.isBlank() ? 1 : 0, 1);
        }
    }

    private static void makeCall(String line, String name, String arguments, int said)
            throws ReflectiveOperationException {
        Object[] numbers = Pattern.compile(", ").splitAsStream(arguments)
                .filter(number -> !number.isEmpty()).map(Integer::valueOf).toArray();
        check.due(line, (int) methods.get(name).invoke(desk, numbers), said);
        shown.add(name);
    }
}
