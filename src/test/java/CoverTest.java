import java.io.IOException;
import java.lang.reflect.Method;
import java.nio.file.DirectoryStream;
import java.nio.file.Files;
import java.nio.file.Path;
import java.util.ArrayList;
import java.util.List;

/** Each promise of the document has tests of its boundary cases in one of the classes named ..EdgeTest. */
public final class CoverTest {
    private static final Path DOCUMENT = Path.of("../shared/DOC.md");
    private static final Path TESTS = Path.of("src/test/java");

    public static void main(String[] args) throws IOException, ClassNotFoundException {
        List<String> names = namesOfEdgeTests();
        int promises = 0;
        for (String line : Files.readAllLines(DOCUMENT)) {
            if (line.matches("## Promise \\d+: .*")) {
                promises++;
                String pattern = "promise" + line.replaceAll("\\D+(\\d+): .*", "$1") + "[A-Z]\\w*";
                Check.holds(line + " has a test of its edges", names.stream().anyMatch(name -> name.matches(pattern)));
            }
        }
        Check.due("promises of the document", promises, 30);
        Check.end();
    }

    private static List<String> namesOfEdgeTests() throws IOException, ClassNotFoundException {
        List<String> names = new ArrayList<>();
        try (DirectoryStream<Path> files = Files.newDirectoryStream(TESTS, "*EdgeTest.java")) {
            for (Path file : files) {
                Class<?> tests = Class.forName(file.getFileName().toString().replace(".java", ""));
                for (Method m : tests.getDeclaredMethods()) {
                    names.add(m.getName());
                }
            }
        }
        return names;
    }
}
