import java.io.IOException;
import java.lang.reflect.Method;
import java.lang.reflect.Modifier;
import java.nio.file.Files;
import java.nio.file.Path;
import java.util.List;
import java.util.Set;
import java.util.TreeSet;
import java.util.regex.MatchResult;
import java.util.regex.Pattern;
import java.util.stream.Collectors;
import java.util.stream.Stream;

/** What README.md says of the class and of the tests is so. The third argument is its path. */
public final class ReadmeTest {
    private final Due due = new Due();
    private final String readme;
    private final Path tests;

    private ReadmeTest(Path readme) throws IOException {
        this.readme = Files.readString(readme);
        this.tests = readme.resolveSibling("src/test/java");
    }

    public static void main(String[] args) throws IOException {
        ReadmeTest test = new ReadmeTest(Path.of(args[2]));
        test.example();
        test.exampleIsTheOneShown();
        test.everyCallIsTold();
        test.everyTestIsTold();
        test.everyOtherFileIsTold();
        test.due.end("ReadmeTest");
    }

    private void example() {
        // The example begins.
        ScriptText x = new ScriptText();
        x.describe(1, 0, 1, 0);            // character 1 has class 1
        x.describe(10, 1, 0, 1);           // character 10 decomposes canonically into 0, 1
        x.insert(0, 0, 10);                // text 0 is now: 10
        int length = x.normal(0, 0);       // 2: the result is form 0 of text 0
        int first = x.result(0);           // 0
        int second = x.result(1);          // 1
        x.take(1);                         // text 1 is now: 0, 1
        boolean same = x.isNormal(1, 1);   // false: form 1 of text 1 is 10
        int order = x.compare(4);          // 0: both texts have the same form 0
        int found = x.search(4);           // 1: it is the part of text 0 from 0 to 1
        // The example ends.
        due.is("length", length, 2);
        due.is("first", first, 0);
        due.is("second", second, 1);
        due.is("text 1", Given.plain(x, 1), "0 1");
        due.no("same", same);
        due.is("form 1 of text 1", Given.normal(x, 1, 1), "1: 10");
        due.is("order", order, 0);
        due.is("found", found, 1);
    }

    private void exampleIsTheOneShown() throws IOException {
        String source = Files.readString(tests.resolve("ReadmeTest.java"));
        due.is("the example", between(readme, "```java\n", "```"),
            between(source, "// The example begins.\n", "        // The example ends.\n").indent(-8));
    }

    private static String between(String all, String begin, String end) {
        int from = all.indexOf(begin) + begin.length();
        return all.substring(from, all.indexOf(end, from));
    }

    /** What the first column of the table with this heading names. */
    private List<String> firstColumn(String heading) {
        String rows = between(readme + "\n\n", "| " + heading + " |", "\n\n");
        return found("(?m)^\\| `?([A-Za-z]+)[^|]*\\|", rows);
    }

    private static List<String> found(String pattern, String all) {
        return Pattern.compile(pattern).matcher(all).results().map((MatchResult m) -> m.group(1)).toList();
    }

    private void everyCallIsTold() {
        Set<String> calls = Stream.of(ScriptText.class.getDeclaredMethods())
            .filter(m -> Modifier.isPublic(m.getModifiers())).map(Method::getName)
            .collect(Collectors.toCollection(TreeSet::new));
        List<String> told = firstColumn("call");
        due.is("the calls", new TreeSet<>(told).toString(), calls.toString());
        due.is("each call once", told.size(), calls.size());
    }

    private void everyTestIsTold() throws IOException {
        List<String> told = firstColumn("test");
        due.is("the tests", new TreeSet<>(told).toString(), sources(true).toString());
        due.is("each test once", told.size(), sources(true).size());
    }

    private void everyOtherFileIsTold() throws IOException {
        Set<String> told = new TreeSet<>(found("`([A-Za-z]+)\\.java`", readme));
        due.is("the other files of the tests", told.toString(), sources(false).toString());
    }

    private Set<String> sources(boolean ofTests) throws IOException {
        try (Stream<Path> files = Files.list(tests)) {
            return files.map(file -> file.getFileName().toString().replace(".java", ""))
                .filter(name -> name.endsWith("Test") == ofTests).collect(Collectors.toCollection(TreeSet::new));
        }
    }
}
