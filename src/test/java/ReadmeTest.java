import java.io.IOException;
import java.nio.file.Files;
import java.nio.file.Path;
import java.util.List;
import java.util.Set;
import java.util.TreeSet;
import java.util.regex.MatchResult;
import java.util.regex.Pattern;
import java.util.stream.Collectors;
import java.util.stream.Stream;

/** README.md: its example does what it says, and its table names all tests and no others. */
public final class ReadmeTest {
    private static final Path README = Path.of("README.md");
    private static final Path TESTS = Path.of("src/test/java");
    private static final String BEGIN = "        // The example begins.", END = "        // The example ends.";
    private static final String INDENT = "        ";

    private ReadmeTest() {}

    public static void main(String[] args) throws IOException {
        String readme = Files.readString(README);
        Check.same("what the example makes", example(), said(readme));
        Check.yes("README.md has the example that was run", readme.contains("```java\n" + exampleSource()));
        Check.same("the tests that README.md names", namedTests(readme), tests());
        Check.yes("README.md says how to run the tests", readme.contains("\n    .ci/run\n"));
        Check.finish();
    }

    private static String example() {
        // The example begins.
        MarkupSieve sieve = new MarkupSieve();         // unwraps all elements, drops s with all in it
        sieve.action('b' - 'a', MarkupSieve.KEEP);     // <b> may stay
        sieve.action('a' - 'a', MarkupSieve.KEEP);     // <a> too,
        sieve.attribute('a' - 'a', 'h' - 'a', true);   // and it may have an attribute h
        sieve.scheme(0x70747468L);                     // "http": an h or r with another scheme goes

        String marked = "<b>1<a h=http:x o=y>2<i>3";
        for (int i = 0; i < marked.length(); i++) {
            sieve.put(marked.charAt(i));               // false if it is no character or there is no room
        }

        int size = sieve.clean();                      // MarkupSieve.REJECTED if there is no output
        StringBuilder clean = new StringBuilder();
        for (int i = 0; i < size; i++) {
            clean.append((char) (sieve.output(i / 8) >>> 8 * (i % 8) & 255));
        }
        // The example ends.
        return clean.toString();
    }

    /** What README.md says that the example makes. */
    private static String said(String readme) {
        return readme.lines().filter(line -> line.startsWith("// clean is now: "))
                .map(line -> line.substring("// clean is now: ".length())).collect(Collectors.joining());
    }

    private static String exampleSource() throws IOException {
        List<String> lines = Files.readAllLines(TESTS.resolve("ReadmeTest.java"));
        return lines.subList(lines.indexOf(BEGIN) + 1, lines.indexOf(END)).stream()
                .map(line -> (line.startsWith(INDENT) ? line.substring(INDENT.length()) : line) + "\n")
                .collect(Collectors.joining());
    }

    private static Set<String> namedTests(String readme) {
        return Pattern.compile("(?m)^\\| `(\\w+Test)` \\|").matcher(readme).results()
                .map((MatchResult found) -> found.group(1)).collect(Collectors.toCollection(TreeSet::new));
    }

    private static Set<String> tests() throws IOException {
        try (Stream<Path> files = Files.list(TESTS)) {
            return files.map(file -> file.getFileName().toString()).filter(name -> name.endsWith("Test.java"))
                    .map(name -> name.replace(".java", "")).collect(Collectors.toCollection(TreeSet::new));
        }
    }
}
