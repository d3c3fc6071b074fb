import java.io.IOException;
import java.lang.reflect.Method;
import java.lang.reflect.Modifier;
import java.nio.file.Files;
import java.nio.file.Path;
import java.util.List;
import java.util.regex.Matcher;
import java.util.regex.Pattern;
import java.util.stream.Stream;

/** README.md: the answers of its example, and that it names every call and every test. */
public final class ReadmeTest {
    private static final Path README = Path.of("README.md");
    private static final Path TESTS = Path.of("src", "test", "java");
    /** A call of the example with the answer that its comment begins with. */
    private static final Pattern CALL = Pattern.compile("desk\\.(\\w+)\\((.*)\\); *// (-?\\w+)(:.*)?");

    public static void main(String[] args) throws IOException, ReflectiveOperationException {
        Check check = new Check();
        String readme = Files.readString(README);
        example(readme, check);
        calls(readme, check);
        tests(readme, check);
        check.finish();
    }

    private static void example(String readme, Check check) throws ReflectiveOperationException {
        PackageDesk desk = new PackageDesk();
        List<String> lines = readme.lines().filter(line -> line.startsWith("desk.")).toList();
        check.holds("there is an example", !lines.isEmpty());
        for (String line : lines) {
            Matcher call = CALL.matcher(line);
            boolean isTold = call.matches();
            check.holds("the answer is told: " + line, isTold);
            if (isTold) {
                check.due(line, answer(desk, call.group(1), call.group(2)), valueOf(call.group(3)));
            }
        }
    }

    private static int answer(PackageDesk desk, String name, String arguments) throws ReflectiveOperationException {
        for (Method method : PackageDesk.class.getMethods()) {
            if (method.getName().equals(name)) {
                Object[] given = Stream.of(arguments.split(", ")).filter(word -> !word.isEmpty())
                    .map(ReadmeTest::argument).toArray();
                return (int) method.invoke(desk, given);
            }
        }
        throw new NoSuchMethodException(name);
    }

    private static Object argument(String word) {
        return word.equals("true") || word.equals("false") ? (Object) Boolean.valueOf(word) : Integer.valueOf(word);
    }

    private static int valueOf(String answer) throws ReflectiveOperationException {
        return Character.isLetter(answer.charAt(0))
            ? PackageDesk.class.getField(answer).getInt(null) : Integer.parseInt(answer);
    }

    private static void calls(String readme, Check check) {
        for (Method method : PackageDesk.class.getDeclaredMethods()) {
            if (Modifier.isPublic(method.getModifiers())) {
                String name = method.getName();
                check.holds(name + " is named", readme.contains("`" + name + "`"));
            }
        }
    }

    private static void tests(String readme, Check check) throws IOException {
        try (Stream<Path> files = Files.list(TESTS)) {
            for (Path file : files.sorted().toList()) {
                String name = file.getFileName().toString().replace(".java", "");
                check.holds(name + " is in the table of tests",
                    !name.endsWith("Test") || readme.contains("| `" + name + "` |"));
            }
        }
    }
}
