import java.io.IOException;
import java.lang.reflect.InvocationTargetException;
import java.lang.reflect.Method;
import java.nio.file.Files;
import java.nio.file.Path;
import java.util.Set;
import java.util.TreeSet;
import java.util.regex.Matcher;
import java.util.regex.Pattern;

/**
 * What README.md says holds: its example answers as told behind each call, its table of calls names
 * all of them, and that of boundary cases names tests that there are, and each that says a sentence
 * of the document. It is run in the project's directory.
 */
public final class ReadmeTest {

    private static final Path TESTS = Path.of("src", "test", "java");
    private static final Pattern ROW = Pattern.compile("\\| (\\d+) \\| (.*) \\|");
    private static final Pattern EXAMPLE = Pattern.compile(
        "\nbook\\.((\\w+)\\(([^)]*)\\)); +// (throws (\\w+)|-?\\w+)");
    private static final Pattern CALLS = Pattern.compile("\n\\| (`[^|]*) \\|[^|]*\\|");
    private static final Pattern METHOD = Pattern.compile(
        "    private static void (\\w+)\\([^{]*\\{\n(.*?)\n    \\}\n", Pattern.DOTALL);

    private static final Due due = new Due("ReadmeTest");

    private ReadmeTest() { }

    /** The methods of a test that say a sentence, and that its main method leads to. */
    private static Set<String> sayingMethods(String test) throws IOException {
        String source = Files.readString(TESTS.resolve(test + ".java"));
        Set<String> methods = new TreeSet<>();
        Matcher matcher = METHOD.matcher(source);
        while (matcher.find()) {
            if (matcher.group(2).contains("due.sentence(")) {
                methods.add(matcher.group(1));
                due.is(test + " calls " + matcher.group(1),
                    source.contains("\n        " + matcher.group(1) + "();\n"), true);
            }
        }
        return methods;
    }

    private static Set<String> edgeTests() throws IOException {
        Set<String> tests = new TreeSet<>(Set.of("RoundsTest"));
        try (var files = Files.list(TESTS)) {
            files.map(file -> file.getFileName().toString().replace(".java", ""))
                .filter(name -> name.endsWith("EdgesTest")).forEach(tests::add);
        }
        return tests;
    }

    private static Set<String> named(String row) {
        Set<String> named = new TreeSet<>();
        for (String part : row.split("; ")) {
            String[] of = part.replace("`", "").split(": ");
            for (String method : of[1].split(", ")) {
                named.add(of[0] + "." + method);
            }
        }
        return named;
    }

    private static String answer(Facingleaf book, String name, String[] arguments)
            throws ReflectiveOperationException {
        for (Method method : Facingleaf.class.getMethods()) {
            if (method.getName().equals(name) && method.getDeclaringClass() == Facingleaf.class) {
                Object[] values = new Object[arguments.length];
                for (int k = 0; k < values.length; k++) {
                    boolean isFlag = method.getParameterTypes()[k] == boolean.class;
                    values[k] = isFlag ? (Object) Boolean.valueOf(arguments[k])
                        : (Object) Integer.valueOf(arguments[k]);
                }
                try {
                    return String.valueOf(method.invoke(book, values));
                } catch (InvocationTargetException e) {
                    return "throws " + e.getCause().getClass().getSimpleName();
                }
            }
        }
        return "no such call";
    }

    private static void example(String readme) throws ReflectiveOperationException {
        Facingleaf book = new Facingleaf();
        Matcher line = EXAMPLE.matcher(readme);
        int lines = 0;
        while (line.find()) {
            lines++;
            String[] arguments = line.group(3).isEmpty() ? new String[0] : line.group(3).split(", ");
            due.is("the example's " + line.group(1), answer(book, line.group(2), arguments),
                line.group(4));
        }
        due.is("each call of the example is played", lines, readme.split("\nbook\\.").length - 1);
    }

    private static void tableOfCalls(String readme) {
        Set<String> calls = new TreeSet<>();
        Matcher row = CALLS.matcher(readme);
        while (row.find()) {
            calls.addAll(Set.of(row.group(1).replace("`", "").split(", ")));
        }
        for (Method method : Facingleaf.class.getMethods()) {
            if (method.getDeclaringClass() == Facingleaf.class) {
                due.is(method.getName() + " is in the table", calls.contains(method.getName()), true);
            }
        }
    }

    public static void main(String[] args) throws IOException, ReflectiveOperationException {
        String readme = Files.readString(Path.of("README.md"));
        example(readme);
        tableOfCalls(readme);
        boundaryCases(readme);
        due.end();
    }

    private static void boundaryCases(String readme) throws IOException {
        Set<String> there = new TreeSet<>();
        for (String test : edgeTests()) {
            for (String method : sayingMethods(test)) {
                there.add(test + "." + method);
            }
        }
        Set<String> named = new TreeSet<>();
        int rows = 0;
        Matcher row = ROW.matcher(readme);
        while (row.find()) {
            rows++;
            due.is("the number of a row", Integer.parseInt(row.group(1)), rows);
            named.addAll(named(row.group(2)));
        }
        due.is("a row for each promise", rows, 39);
        for (String method : named) {
            due.is(method + " is there", there.contains(method), true);
        }
        for (String method : there) {
            String name = method.substring(method.indexOf('.') + 1);
            due.is(method + " is named", readme.contains(name), true);
        }
    }
}
