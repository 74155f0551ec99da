import java.io.IOException;
import java.io.UncheckedIOException;
import java.lang.reflect.Method;
import java.lang.reflect.Modifier;
import java.nio.file.Files;
import java.nio.file.Path;
import java.util.HashMap;
import java.util.Map;
import java.util.regex.Matcher;
import java.util.regex.Pattern;
import java.util.stream.Stream;

/** README.md: its example is run line by line. */
final class Readme {
    private static final Path PLACE = Path.of("README.md");
    private static final Pattern LINE = Pattern.compile("(?:int (\\w+) = )?x\\.(\\w+)\\(([^)]*)\\); +// (-?\\d+)(:.*)?");
    private static final String FIRST_LINE = "TaskSheets x = new TaskSheets();";

    private Readme() {
    }

    static void run() {
        Due.test("README: the example", Readme::example);
        Due.test("README: the text of the example", Readme::text);
        Due.test("README: each call is named", Readme::names);
    }

    private static String whole() {
        try {
            return Files.readString(PLACE);
        } catch (IOException e) {
            throw new UncheckedIOException(e);
        }
    }

    private static void example() {
        String block = whole().split("```java\n")[1].split("```")[0];
        Due.isTrue("it makes an object", block.startsWith(FIRST_LINE));
        TaskSheets x = new TaskSheets();
        Map<String, Integer> numbers = new HashMap<>();
        block.lines().skip(1).forEach(line -> {
            Matcher call = LINE.matcher(line);
            if (call.matches()) {
                int due = Integer.parseInt(call.group(4));
                Due.is(line, answer(x, call.group(2), call.group(3), numbers), due);
                numbers.put(String.valueOf(call.group(1)), due);
            } else {
                Due.wrong("a line of the example that cannot be run: " + line);
            }
        });
    }

    private static int answer(TaskSheets x, String name, String arguments, Map<String, Integer> numbers) {
        Object[] values = Stream.of(arguments.split(", ")).filter(a -> !a.isEmpty())
            .map(a -> numbers.containsKey(a) ? numbers.get(a) : Integer.valueOf(a)).toArray();
        for (Method method : TaskSheets.class.getDeclaredMethods()) {
            if (method.getName().equals(name) && method.getParameterCount() == values.length) {
                try {
                    return (Integer) method.invoke(x, values);
                } catch (ReflectiveOperationException e) {
                    throw new IllegalStateException(name, e);
                }
            }
        }
        throw new IllegalStateException("no such call: " + name);
    }

    private static void text() {
        String text = "t0,3,12;t1,15,4;a0,1;";
        Due.isTrue("it stands there", whole().contains("`" + text + "`"));
        TaskSheets x = Plans.withText(text);
        Due.is("tasks", x.parse(), 2);
        Due.equal("the plan of the example", x.task(0, 0) + " " + x.task(0, 1) + " " + x.task(0, 2) + ", " + x.task(1, 0) + " "
            + x.task(1, 1) + " " + x.task(1, 2) + ", " + x.arrow(0, 0) + " " + x.arrow(0, 1), "0 3 12, 1 15 4, 0 1");
    }

    private static void names() {
        for (Method method : TaskSheets.class.getDeclaredMethods()) {
            if (Modifier.isPublic(method.getModifiers())) {
                Due.isTrue(method.getName() + " is named", whole().contains("`" + method.getName() + "`"));
            }
        }
    }
}
