import java.io.IOException;
import java.lang.reflect.InvocationTargetException;
import java.lang.reflect.Method;
import java.lang.reflect.Modifier;
import java.nio.file.DirectoryStream;
import java.nio.file.Files;
import java.nio.file.Path;
import java.util.ArrayList;
import java.util.List;
import java.util.regex.Matcher;
import java.util.regex.Pattern;

/** The page says what is so: its example answers as it tells, and it names every call and every test. */
public final class ReadmeTest {
    private static final Pattern CALL = Pattern.compile("x\\.(\\w+)\\(([^)]*)\\);\\s+// (-?\\w+).*");

    public static void main(String[] args) throws IOException, ReflectiveOperationException {
        String page = Files.readString(Path.of("README.md"));
        example(page.substring(page.indexOf("```java") + "```java".length(), page.lastIndexOf("```")));
        everyCallIsNamed(page);
        everyTestIsNamed(page);
        Due.finish();
    }

    private static void example(String lines) throws ReflectiveOperationException {
        QuotientFile x = new QuotientFile();
        int calls = 0;
        for (String line : lines.split("\n")) {
            boolean plain = line.isEmpty() || line.startsWith("//") || line.startsWith("QuotientFile x = ");
            Matcher m = CALL.matcher(line);
            Due.is("the example has a call with its answer, or none: " + line, m.matches(), !plain);
            if (m.matches()) {
                calls++;
                String answer = answerOf(x, m.group(1), m.group(2));
                Due.is(line + " (it is " + answer + ")", answer.equals(m.group(3)), true);
            }
        }
        Due.is("calls in the example", calls > 0, true);
    }

    private static String answerOf(QuotientFile x, String name, String args) throws ReflectiveOperationException {
        List<Object> numbers = new ArrayList<>();
        for (String arg : args.split(", ")) {
            if (!arg.isEmpty()) {
                numbers.add(Integer.decode(arg));
            }
        }
        try {
            return String.valueOf(methodOf(name).invoke(x, numbers.toArray()));
        } catch (InvocationTargetException e) {
            return "throws";
        }
    }

    private static Method methodOf(String name) throws NoSuchMethodException {
        for (Method method : QuotientFile.class.getDeclaredMethods()) {
            if (method.getName().equals(name) && Modifier.isPublic(method.getModifiers())) {
                return method;
            }
        }
        throw new NoSuchMethodException(name);
    }

    private static void everyCallIsNamed(String page) {
        for (Method method : QuotientFile.class.getDeclaredMethods()) {
            if (Modifier.isPublic(method.getModifiers())) {
                String name = "`" + method.getName() + "`";
                Due.is("README.md names " + name, page.contains(name), true);
            }
        }
    }

    private static void everyTestIsNamed(String page) throws IOException {
        Path tests = Path.of("src/test/java");
        try (DirectoryStream<Path> files = Files.newDirectoryStream(tests, "*Test.java")) {
            for (Path file : files) {
                String name = "`" + file.getFileName().toString().replace(".java", "") + "`";
                Due.is("README.md names " + name, page.contains(name), true);
            }
        }
        Matcher m = Pattern.compile("`(\\w+Test)`").matcher(page);
        while (m.find()) {
            Due.is("there is a " + m.group(1), Files.exists(tests.resolve(m.group(1) + ".java")), true);
        }
    }
}
