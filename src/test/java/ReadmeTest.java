import java.io.IOException;
import java.lang.reflect.InvocationTargetException;
import java.lang.reflect.Method;
import java.lang.reflect.Modifier;
import java.nio.file.Files;
import java.nio.file.Path;
import java.util.List;
import java.util.regex.Matcher;
import java.util.regex.Pattern;
import java.util.stream.Collectors;
import java.util.stream.Stream;

/** README.md's example: each of its lines answers what stands behind it. Its tables name every call and every test. */
public final class ReadmeTest {
    private static final Checks CHECK = new Checks("ReadmeTest");
    private static final Path README = Path.of("README.md");
    private static final Path TESTS = Path.of("src", "test", "java");
    private static final Pattern MADE = Pattern.compile("GearObservatory x = new GearObservatory\\(\\);");
    private static final Pattern FED =
            Pattern.compile("for \\(char sign : \"(.*)\"\\.toCharArray\\(\\)\\) x\\.feed\\(sign\\);");
    private static final Pattern CALL = Pattern.compile("x\\.(\\w+)\\((.*)\\); +// (.+)");
    private static final int FEWEST_CALLS = 30;

    private GearObservatory x;
    private int calls;

    public static void main(String[] args) throws IOException {
        String readme = Files.readString(README);
        new ReadmeTest().tryExample(readme);
        namesEveryCall(readme);
        namesEveryTest(readme);
        CHECK.end();
    }

    private void tryExample(String readme) {
        String[] parts = readme.split("```");
        for (String part : parts) {
            if (part.startsWith("java\n")) {
                part.lines().skip(1).forEach(this::tryLine);
            }
        }
        CHECK.yes("the example has " + calls + " calls with answers", calls >= FEWEST_CALLS);
    }

    private void tryLine(String line) {
        Matcher fed = FED.matcher(line);
        Matcher call = CALL.matcher(line);
        if (MADE.matcher(line).matches()) {
            x = new GearObservatory();
        } else if (fed.matches()) {
            Checks.feed(x, fed.group(1));
        } else if (call.matches()) {
            calls++;
            String got = answerOf(call.group(1), call.group(2));
            CHECK.yes(line + " but it is " + got, got.equals(call.group(3)));
        } else {
            CHECK.yes("a line that can be read: " + line, line.isEmpty() || line.startsWith("// "));
        }
    }

    /** The answer, or what is thrown, as a text. */
    private String answerOf(String name, String written) {
        String[] arguments = written.isEmpty() ? new String[0] : written.split(", ");
        for (Method method : GearObservatory.class.getMethods()) {
            if (method.getName().equals(name) && method.getParameterCount() == arguments.length) {
                return answerOf(method, arguments);
            }
        }
        return "no such call";
    }

    private String answerOf(Method method, String[] written) {
        Object[] arguments = new Object[written.length];
        for (int i = 0; i < written.length; i++) {
            if (method.getParameterTypes()[i] == char.class) {
                arguments[i] = written[i].charAt(1);
            } else {
                arguments[i] = Integer.valueOf(written[i]);
            }
        }
        try {
            return String.valueOf(method.invoke(x, arguments));
        } catch (InvocationTargetException e) {
            return "throws " + e.getCause().getClass().getSimpleName();
        } catch (IllegalAccessException e) {
            return "a call that is not public";
        }
    }

    private static void namesEveryCall(String readme) {
        for (Method method : GearObservatory.class.getDeclaredMethods()) {
            if (Modifier.isPublic(method.getModifiers())) {
                CHECK.yes("the table names " + method.getName(), isNamed(readme, method.getName()));
            }
        }
    }

    private static void namesEveryTest(String readme) throws IOException {
        List<String> names;
        try (Stream<Path> files = Files.list(TESTS)) {
            names = files.map(file -> file.getFileName().toString()).filter(name -> name.endsWith("Test.java"))
                    .collect(Collectors.toList());
        }
        for (String name : names) {
            String test = name.substring(0, name.length() - ".java".length());
            CHECK.yes("the table names " + test, isNamed(readme, test));
        }
        CHECK.yes("there are tests", names.size() > 1);
    }

    private static boolean isNamed(String readme, String name) {
        return readme.lines().anyMatch(line -> line.startsWith("| ") && line.contains("`" + name + "`"));
    }
}
