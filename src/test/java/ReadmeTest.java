import java.io.IOException;
import java.lang.reflect.Field;
import java.lang.reflect.Method;
import java.lang.reflect.Modifier;
import java.nio.file.Files;
import java.nio.file.Path;
import java.util.Set;
import java.util.TreeSet;
import java.util.regex.Matcher;
import java.util.regex.Pattern;

/** README.md tells of every member of the class, and its example answers as it says. Run beside README.md. */
public final class ReadmeTest {
    private static final Pattern EXAMPLE = Pattern.compile("```java\n(.*?)```", Pattern.DOTALL);
    private static final Pattern CALL = Pattern.compile("x\\.(\\w+)\\(([-0-9, ]*)\\); +// (-?\\w+)(:.*)?");
    private static final String FIRST_LINE = "MarchTester x = new MarchTester();";

    private static final Due due = new Due();

    public static void main(String[] args) throws IOException, ReflectiveOperationException {
        due.promise("README.md");
        String readme = Files.readString(Path.of("README.md"));
        tellsOfEveryMember(readme);
        exampleAnswersAsItSays(readme);
        due.is("it says how the tests are run", readme.contains("```sh\n.ci/run\n```"), true);
        due.end();
    }

    private static void tellsOfEveryMember(String readme) {
        due.is("it tells of the constructor", readme.contains("| `MarchTester()` |"), true);
        for (Field field : MarchTester.class.getFields()) {
            String told = "| `" + field.getType() + " " + field.getName() + "` |";
            due.is("it tells of " + told, readme.contains(told), true);
        }
        for (Method method : MarchTester.class.getDeclaredMethods()) {
            if (Modifier.isPublic(method.getModifiers())) {
                String told = "| `" + method.getReturnType() + " " + method.getName() + "(";
                due.is("it tells of " + told, readme.contains(told), true);
            }
        }
    }

    private static void exampleAnswersAsItSays(String readme) throws ReflectiveOperationException {
        Matcher example = EXAMPLE.matcher(readme);
        due.is("there is an example", example.find(), true);
        String[] lines = example.group(1).split("\n");
        due.is("it begins with " + FIRST_LINE, lines[0].equals(FIRST_LINE), true);
        MarchTester x = new MarchTester();
        Set<String> called = new TreeSet<>();
        for (int i = 1; i < lines.length; i++) {
            Matcher call = CALL.matcher(lines[i]);
            boolean readable = call.matches();
            due.is("a call and its answer can be read in: " + lines[i], readable, true);
            if (readable) {
                called.add(call.group(1));
                String answer = answer(x, call.group(1), call.group(2));
                due.is(lines[i] + " <- " + answer, answer.equals(meant(call.group(3))), true);
            }
        }
        for (Method method : MarchTester.class.getDeclaredMethods()) {
            if (Modifier.isPublic(method.getModifiers())) {
                due.is("it calls " + method.getName(), called.contains(method.getName()), true);
            }
        }
    }

    private static String answer(MarchTester x, String name, String list) throws ReflectiveOperationException {
        String[] texts = list.isEmpty() ? new String[0] : list.split(", ");
        Class<?>[] types = new Class<?>[texts.length];
        Object[] arguments = new Object[texts.length];
        for (int i = 0; i < texts.length; i++) {
            types[i] = int.class;
            arguments[i] = Integer.valueOf(texts[i]);
        }
        return MarchTester.class.getMethod(name, types).invoke(x, arguments).toString();
    }

    private static String meant(String told) {
        return switch (told) {
            case "BAD" -> "-1";
            case "FULL" -> "-2";
            default -> told;
        };
    }
}
