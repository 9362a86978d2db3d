import java.io.File;
import java.io.IOException;
import java.lang.reflect.InvocationTargetException;
import java.lang.reflect.Method;
import java.lang.reflect.Modifier;
import java.nio.file.Files;
import java.nio.file.Path;
import java.util.ArrayList;
import java.util.Arrays;
import java.util.List;
import java.util.regex.Matcher;
import java.util.regex.Pattern;

/** What README.md tells: its examples, called in their order, and its tables. */
public final class ReadmeTest {
    private static final Check CHECK = new Check();

    private static final Pattern EXAMPLE =
        Pattern.compile("game\\.(\\w+)\\((.*)\\);\\s*// (-?\\w+)(:.*)?");
    private static final Pattern ROW = Pattern.compile("\\| `(\\w+)` \\|(.*)\\|(.*)\\|(.*)\\|");

    private static final List<Class<?>> EXCEPTIONS = List.of(
        IndexOutOfBoundsException.class, IllegalArgumentException.class, IllegalStateException.class);

    private static List<String> examples(List<String> page) {
        List<String> examples = new ArrayList<>();
        boolean isExample = false;
        for (String line : page) {
            if (line.startsWith("```")) {
                isExample = line.equals("```java");
            } else if (isExample) {
                examples.add(line);
            }
        }
        return examples;
    }

    private static Method call(String name) {
        for (Method method : Quarterboard.class.getDeclaredMethods()) {
            if (method.getName().equals(name) && Modifier.isPublic(method.getModifiers())) {
                return method;
            }
        }
        return null;
    }

    private static String answer(Quarterboard game, Method method, String argument)
            throws IllegalAccessException {
        Object[] arguments = argument.isEmpty() ? new Object[0]
            : method.getParameterTypes()[0] == boolean.class
                ? new Object[] {Boolean.valueOf(argument)} : new Object[] {Integer.valueOf(argument)};
        try {
            return String.valueOf(method.invoke(game, arguments));
        } catch (InvocationTargetException e) {
            return e.getCause().getClass().getSimpleName();
        }
    }

    private static void examplesAnswerSo(List<String> page) throws IllegalAccessException {
        List<String> examples = examples(page);
        CHECK.equal("there are examples", examples.isEmpty(), false);
        CHECK.equal("the first", examples.get(0), "Quarterboard game = new Quarterboard();");
        Quarterboard game = new Quarterboard();
        List<String> called = new ArrayList<>();
        for (String line : examples.subList(1, examples.size())) {
            Matcher example = EXAMPLE.matcher(line);
            boolean isCall = example.matches() && call(example.group(1)) != null;
            CHECK.equal("is a call: " + line, isCall, true);
            if (isCall) {
                called.add(example.group(1));
                CHECK.equal(line, answer(game, call(example.group(1)), example.group(2)),
                    example.group(3));
            }
        }
        for (Method method : Quarterboard.class.getDeclaredMethods()) {
            if (Modifier.isPublic(method.getModifiers())) {
                CHECK.equal("an example of " + method.getName(),
                    called.contains(method.getName()), true);
            }
        }
    }

    private static void tableOfExceptions(List<String> page) {
        List<String> told = new ArrayList<>();
        for (String line : page) {
            Matcher row = ROW.matcher(line);
            if (row.matches()) {
                List<Class<?>> throwing = new ArrayList<>();
                for (int i = 0; i < EXCEPTIONS.size(); i++) {
                    if (!row.group(2 + i).isBlank()) {
                        throwing.add(EXCEPTIONS.get(i));
                    }
                }
                told.add(row.group(1) + throwing);
            }
        }
        int due = 0;
        for (Method method : Quarterboard.class.getDeclaredMethods()) {
            List<Class<?>> throwing = Arrays.asList(method.getExceptionTypes());
            if (Modifier.isPublic(method.getModifiers()) && !throwing.isEmpty()) {
                due++;
                CHECK.equal("the table has " + method.getName() + throwing,
                    told.contains(method.getName() + throwing), true);
            }
        }
        CHECK.equal("rows of the table", told.size(), due);
    }

    private static void tellsEveryTest(String page) {
        for (String file : new File("tests").list()) {
            if (file.endsWith("Test.java")) {
                CHECK.equal("tells of " + file,
                    page.contains("`" + file.replace(".java", "") + "`"), true);
            }
        }
    }

    public static void main(String[] args) throws IOException, IllegalAccessException {
        List<String> page = Files.readAllLines(Path.of("README.md"));
        examplesAnswerSo(page);
        tableOfExceptions(page);
        tellsEveryTest(String.join("\n", page));
        CHECK.end();
    }
}
