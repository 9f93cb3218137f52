import java.io.IOException;
import java.lang.reflect.Method;
import java.nio.file.Files;
import java.nio.file.Path;
import java.util.ArrayList;
import java.util.Arrays;
import java.util.HashSet;
import java.util.List;
import java.util.Set;
import java.util.TreeSet;
import java.util.regex.Matcher;
import java.util.regex.Pattern;
import java.util.stream.Collectors;
import java.util.stream.Stream;

/** README.md's calls answer what stands behind them there, and it names every call and every test. */
public final class ReadmeTest {
    private static final Path README = Path.of("README.md");
    private static final Path TESTS = Path.of("src/test/java");
    private static final Pattern EXAMPLE = Pattern.compile("x\\.(\\w+)\\(([-\\d, ]*)\\);\\s+// (-?\\d+|[A-Z]+)(:.*)?");
    private static final Pattern ROW = Pattern.compile("\\| `(\\w+)\\(([\\w, ]*)\\)` \\|.*");

    public static void main(String[] args) throws IOException, ReflectiveOperationException {
        String text = Files.readString(README);
        examples(text);
        everyCall(text);
        everyTest(text);
        Check.finish("ReadmeTest");
    }

    private static void examples(String text) throws ReflectiveOperationException {
        int begin = text.indexOf("```java\n");
        int end = text.indexOf("```", begin + 1);
        Check.holds("README.md has an example", begin >= 0 && end > begin);
        SquareTower x = new SquareTower();
        Set<String> asked = new HashSet<>();
        for (String line : text.substring(begin, end).split("\n")) {
            if (!line.startsWith("x.")) {
                continue;
            }
            Matcher example = EXAMPLE.matcher(line);
            Check.holds("a call with its answer: " + line, example.matches());
            asked.add(example.group(1));
            Check.due(line, answer(x, example.group(1), example.group(2)), number(example.group(3)));
        }
        Check.due("calls that the example shows", asked.size(), faces().size());
    }

    private static int answer(SquareTower x, String name, String numbers) throws ReflectiveOperationException {
        List<Object> values = new ArrayList<>();
        for (String number : numbers.isEmpty() ? new String[0] : numbers.split(", ")) {
            values.add(Integer.valueOf(number));
        }
        Class<?>[] types = new Class<?>[values.size()];
        Arrays.fill(types, int.class);
        return (Integer) SquareTower.class.getMethod(name, types).invoke(x, values.toArray());
    }

    private static int number(String told) throws ReflectiveOperationException {
        return told.matches("[A-Z]+") ? SquareTower.class.getField(told).getInt(null) : Integer.parseInt(told);
    }

    private static void everyCall(String text) {
        TreeSet<String> listed = new TreeSet<>();
        for (String line : text.split("\n")) {
            Matcher row = ROW.matcher(line);
            if (row.matches()) {
                int numbers = row.group(2).isEmpty() ? 0 : row.group(2).split(", ").length;
                Check.holds(row.group(1) + " is listed once", listed.add(row.group(1) + " " + numbers));
            }
        }
        Check.holds("the calls of README.md, with how many numbers each takes: " + listed, listed.equals(faces()));
    }

    private static TreeSet<String> faces() {
        TreeSet<String> faces = new TreeSet<>();
        for (Method method : SquareTower.class.getMethods()) {
            if (method.getDeclaringClass() == SquareTower.class) {
                faces.add(method.getName() + " " + method.getParameterCount());
            }
        }
        return faces;
    }

    private static void everyTest(String text) throws IOException {
        List<String> tests;
        try (Stream<Path> files = Files.list(TESTS)) {
            tests = files.map(file -> file.getFileName().toString()).filter(name -> name.endsWith("Test.java"))
                    .map(name -> name.substring(0, name.length() - ".java".length())).collect(Collectors.toList());
        }
        Check.holds("there are tests", !tests.isEmpty());
        for (String test : tests) {
            Check.holds("README.md names " + test, text.contains("`" + test + "`"));
        }
    }
}
