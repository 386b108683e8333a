import java.io.IOException;
import java.lang.reflect.Method;
import java.nio.charset.StandardCharsets;
import java.nio.file.DirectoryStream;
import java.nio.file.Files;
import java.nio.file.Path;
import java.util.ArrayList;
import java.util.List;
import java.util.Set;
import java.util.TreeSet;
import java.util.regex.Matcher;
import java.util.regex.Pattern;

/** What README.md says: its examples are read from the page itself, so that they cannot differ from it. */
public final class ReadmeTest {
    static final Path PAGE = Path.of("README.md"), TESTS = Path.of("src/test/java");
    static final Pattern EXAMPLE = Pattern.compile("(?ms)^```java\n(.*?)^```$");
    static final Pattern MADE = Pattern.compile("NearFigures x = new NearFigures\\(\\);( +// .*)?");
    // The kind and the name of what keeps the answer, the call, its numbers, the answer, and words of explanation.
    static final Pattern CALL = Pattern.compile(
        "(?:(int|long) (\\w+) = )?x\\.(\\w+)\\(([-\\d, ]*)\\); +// (-?\\d+|[A-Z]+)(?:: .+)?");
    static final Set<String> called = new TreeSet<>();
    static int answers = 0, wrong = 0;

    static void must(boolean right, String words) {
        if (!right) {
            wrong++;
            System.out.println("README.md: " + words);
        }
    }

    static Method method(String name) {
        for (Method m : NearFigures.class.getMethods()) {
            if (m.getDeclaringClass() == NearFigures.class && m.getName().equals(name)) {
                return m;
            }
        }
        return null;
    }

    static Object[] numbers(String list) {
        List<Object> all = new ArrayList<>();
        for (String number : list.split(",")) {
            if (!number.isBlank()) {
                all.add(Integer.valueOf(number.strip()));
            }
        }
        return all.toArray();
    }

    static long answer(String word) throws ReflectiveOperationException {
        boolean isNumber = word.matches("-?\\d+");
        return isNumber ? Long.parseLong(word) : NearFigures.class.getField(word).getInt(null);
    }

    /** The names of one example are kept in names, as no name may be told twice in Java either. */
    static void call(NearFigures x, String line, Set<String> names) throws ReflectiveOperationException {
        Matcher m = CALL.matcher(line);
        if (!m.matches()) {
            must(false, "no call with its answer: " + line);
            return;
        }
        Method method = method(m.group(3));
        Object[] numbers = numbers(m.group(4));
        if (method == null || method.getParameterCount() != numbers.length) {
            must(false, "no such call: " + line);
            return;
        }
        String kind = m.group(1);
        must(kind == null || kind.equals(method.getReturnType().getName()), "it answers no " + kind + ": " + line);
        must(kind == null || names.add(m.group(2)), "a name twice: " + line);
        long got = ((Number) method.invoke(x, numbers)).longValue();
        answers++;
        called.add(method.getName());
        must(got == answer(m.group(5)), "answered " + got + ": " + line);
    }

    static void example(String text) throws ReflectiveOperationException {
        String[] lines = text.split("\n");
        must(MADE.matcher(lines[0]).matches(), "an example begins with a new object: " + lines[0]);
        NearFigures x = new NearFigures();
        Set<String> names = new TreeSet<>(Set.of("x"));
        for (int k = 1; k < lines.length; k++) {
            call(x, lines[k], names);
        }
    }

    static void everyMethodIsShown() {
        for (Method m : NearFigures.class.getDeclaredMethods()) {
            if (java.lang.reflect.Modifier.isPublic(m.getModifiers())) {
                must(called.contains(m.getName()), "no example calls " + m.getName());
            }
        }
    }

    static void everyTestIsNamed(String page) throws IOException {
        Set<String> there = new TreeSet<>(), named = new TreeSet<>();
        try (DirectoryStream<Path> files = Files.newDirectoryStream(TESTS, "*.java")) {
            for (Path file : files) {
                there.add(file.getFileName().toString().replace(".java", ""));
            }
        }
        Matcher m = Pattern.compile("(?m)^- `(\\w+)`: ").matcher(page);
        while (m.find()) {
            named.add(m.group(1));
        }
        must(named.equals(there), "the tests are " + there + ", it names " + named);
        must(page.contains("`.ci/run`") && Files.isExecutable(Path.of(".ci/run")), ".ci/run runs the tests");
    }

    public static void main(String[] args) throws IOException, ReflectiveOperationException {
        String page = Files.readString(PAGE, StandardCharsets.UTF_8);
        int examples = 0;
        for (Matcher m = EXAMPLE.matcher(page); m.find(); examples++) {
            example(m.group(1));
        }
        must(examples == page.split("```java", -1).length - 1, "every example is read");
        everyMethodIsShown();
        everyTestIsNamed(page);
        System.out.println(examples + " examples, " + answers + " answers, " + wrong + " wrong");
        if (wrong != 0) {
            System.exit(1);
        }
    }
}
