import java.io.IOException;
import java.nio.file.Files;
import java.nio.file.Path;
import java.util.Set;
import java.util.TreeSet;
import java.util.regex.Matcher;
import java.util.regex.Pattern;

/**
 * README.md names the tests of each promise's boundary cases: each that it names is there, and each
 * that says a sentence of the document is named. It is run in the project's directory.
 */
public final class ReadmeTest {

    private static final Path TESTS = Path.of("src", "test", "java");
    private static final Pattern ROW = Pattern.compile("\\| (\\d+) \\| (.*) \\|");
    private static final Pattern METHOD = Pattern.compile(
        "    private static void (\\w+)\\([^{]*\\{\n(.*?)\n    \\}\n", Pattern.DOTALL);

    private static final Due due = new Due("ReadmeTest");

    private ReadmeTest() { }

    /** The methods of a test that say a sentence, and that its main method leads to. */
    private static Set<String> sayingMethods(String test) throws IOException {
        String source = Files.readString(TESTS.resolve(test + ".java"));
        Set<String> methods = new TreeSet<>();
        Matcher matcher = METHOD.matcher(source);
        while (matcher.find()) {
            if (matcher.group(2).contains("due.sentence(")) {
                methods.add(matcher.group(1));
                due.is(test + " calls " + matcher.group(1),
                    source.contains("\n        " + matcher.group(1) + "();\n"), true);
            }
        }
        return methods;
    }

    private static Set<String> edgeTests() throws IOException {
        Set<String> tests = new TreeSet<>(Set.of("RoundsTest"));
        try (var files = Files.list(TESTS)) {
            files.map(file -> file.getFileName().toString().replace(".java", ""))
                .filter(name -> name.endsWith("EdgesTest")).forEach(tests::add);
        }
        return tests;
    }

    private static Set<String> named(String row) {
        Set<String> named = new TreeSet<>();
        for (String part : row.split("; ")) {
            String[] of = part.replace("`", "").split(": ");
            for (String method : of[1].split(", ")) {
                named.add(of[0] + "." + method);
            }
        }
        return named;
    }

    public static void main(String[] args) throws IOException {
        String readme = Files.readString(Path.of("README.md"));
        Set<String> there = new TreeSet<>();
        for (String test : edgeTests()) {
            for (String method : sayingMethods(test)) {
                there.add(test + "." + method);
            }
        }
        Set<String> named = new TreeSet<>();
        int rows = 0;
        Matcher row = ROW.matcher(readme);
        while (row.find()) {
            rows++;
            due.is("the number of a row", Integer.parseInt(row.group(1)), rows);
            named.addAll(named(row.group(2)));
        }
        due.is("a row for each promise", rows, 39);
        for (String method : named) {
            due.is(method + " is there", there.contains(method), true);
        }
        for (String method : there) {
            String name = method.substring(method.indexOf('.') + 1);
            due.is(method + " is named", readme.contains(name), true);
        }
        due.end();
    }
}
