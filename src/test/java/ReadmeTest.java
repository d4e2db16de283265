import java.io.IOException;
import java.lang.reflect.InvocationTargetException;
import java.lang.reflect.Method;
import java.nio.file.Files;
import java.nio.file.Path;
import java.util.ArrayList;
import java.util.List;
import java.util.Set;
import java.util.TreeSet;
import java.util.regex.Matcher;
import java.util.regex.Pattern;

/**
 * README.md tells what the document tells: every call of the face, its arguments and findings, and an
 * example that answers as it says. That it names the command for the tests is asked by .ci/run itself.
 */
public final class ReadmeTest {
    private static final Path README = Path.of("README.md");
    private static final Path DOCUMENT = Path.of("../shared/DOC.md");
    private static final int CALLS = 29;
    private static final int MOST_CALLS = 512;
    private static final Pattern FINDING = Pattern.compile("\\b(BEYOND|FULL|KIND|NONE|STATE|MISSING|SIZE|WRONG)\\b");
    private static final Pattern PROMISE = Pattern.compile("`int (\\w+\\(.*?\\))`: (.*)");
    private static final Pattern EXAMPLE = Pattern.compile("quay\\.(\\w+)\\((.*)\\); +// (-?\\d+)(: .*)?");

    public static void main(String[] args) throws IOException {
        Check.holds("README.md is there", Files.isRegularFile(README));
        if (Files.isRegularFile(README)) {
            List<String> page = Files.readAllLines(README);
            tellsWhatTheClassIs(page);
            tellsEveryCall(page);
            tellsEveryFinding(page);
            exampleAnswersAsTold(page);
        }
        Check.end();
    }

    private static void tellsWhatTheClassIs(List<String> page) throws IOException {
        String flowing = String.join(" ", page);
        String first = Files.readAllLines(DOCUMENT).stream().filter(line -> line.startsWith("A quay at which")).findFirst().orElse("");
        Check.holds("the document's first sentence is found", !first.isEmpty());
        Check.holds("what the class is", flowing.contains(first));
        Check.holds("how an object is made", flowing.contains("`new AbreastQuay()`"));
        Check.holds("for how many calls it is used", flowing.contains("An object is used for at most " + MOST_CALLS + " calls after it has been made"));
    }

    /** Each call has a row of a table, which names the findings of the document's promise in their order. */
    private static void tellsEveryCall(List<String> page) throws IOException {
        int calls = 0;
        for (String line : Files.readAllLines(DOCUMENT)) {
            Matcher promise = PROMISE.matcher(line);
            if (promise.matches()) {
                calls++;
                String start = "| `" + promise.group(1) + "` |";
                List<String> rows = page.stream().filter(row -> row.startsWith(start)).toList();
                Check.due("rows for " + promise.group(1), rows.size(), 1);
                Check.due("columns for " + promise.group(1), String.join("", rows).split("\\|").length, 4);
                List<String> want = findingsIn(inOrder(promise.group(2)));
                List<String> told = findingsIn(String.join("", rows));
                Check.holds(promise.group(1) + " has the findings " + want + ", not " + told, want.equals(told));
            }
        }
        Check.due("calls of the document", calls, CALLS);
    }

    /** Promise 18 names KIND last, and tells its place in words. */
    private static String inOrder(String promise) {
        return promise.replaceAll("BEYOND, SIZE, NONE as of plan\\(\\); KIND \\(behind SIZE\\)", "BEYOND, SIZE, KIND, NONE");
    }

    private static List<String> findingsIn(String text) {
        List<String> found = new ArrayList<>();
        Matcher m = FINDING.matcher(text);
        while (m.find()) {
            found.add(m.group());
        }
        return found;
    }

    private static void tellsEveryFinding(List<String> page) throws IOException {
        int findings = 0;
        Matcher m = Pattern.compile("(-1000\\d+) ([A-Z]+)").matcher(Files.readString(DOCUMENT));
        while (m.find()) {
            String start = "| " + m.group(2) + " | " + m.group(1) + " ";
            if (FINDING.matcher(m.group(2)).matches()) {
                findings++;
                Check.holds("the row " + start, page.stream().anyMatch(row -> row.startsWith(start)));
            }
        }
        Check.due("findings of the document", findings, 8);
    }

    private static void exampleAnswersAsTold(List<String> page) {
        AbreastQuay quay = null;
        Set<String> used = new TreeSet<>();
        for (String line : blockOf(page, "```java")) {
            Matcher call = EXAMPLE.matcher(line);
            if (line.equals("AbreastQuay quay = new AbreastQuay();")) {
                quay = new AbreastQuay();
            } else if (quay != null && call.matches()) {
                used.add(call.group(1));
                Check.due(line, answer(quay, call.group(1), call.group(2)), Long.parseLong(call.group(3)));
            } else {
                Check.holds("a row of the example that is a call: " + line, line.isEmpty() || line.startsWith("// "));
            }
        }
        Check.due("calls that the example uses", used.size(), CALLS);
    }

    private static List<String> blockOf(List<String> page, String fence) {
        int start = page.indexOf(fence);
        List<String> block = new ArrayList<>();
        for (int i = start + 1; start >= 0 && i < page.size() && !page.get(i).equals("```"); i++) {
            block.add(page.get(i));
        }
        return block;
    }

    private static long answer(AbreastQuay quay, String name, String arguments) {
        String[] words = arguments.isEmpty() ? new String[0] : arguments.split(", ");
        for (Method m : AbreastQuay.class.getMethods()) {
            if (m.getName().equals(name) && m.getParameterCount() == words.length) {
                return invoke(quay, m, words);
            }
        }
        Check.holds("a call of the face: " + name, false);
        return 0;
    }

    private static long invoke(AbreastQuay quay, Method m, String[] words) {
        Class<?>[] types = m.getParameterTypes();
        Object[] values = new Object[words.length];
        for (int i = 0; i < words.length; i++) {
            values[i] = types[i] == boolean.class ? (Object) Boolean.valueOf(words[i])
                    : types[i] == long.class ? (Object) Long.decode(words[i].replace("L", "")) : Integer.decode(words[i]);
        }
        try {
            return (Integer) m.invoke(quay, values);
        } catch (IllegalAccessException | InvocationTargetException e) {
            Check.holds("no call throws, but " + e.getCause(), false);
            return 0;
        }
    }
}
