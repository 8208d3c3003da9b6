import java.nio.file.Files;
import java.nio.file.Path;
import java.util.Set;
import java.util.TreeSet;
import java.util.regex.Matcher;
import java.util.regex.Pattern;

/** README.md is true: its example answers as it says, its tables have each call and each refusal of the document. */
public final class ReadmeTest {
    private static final Due DUE = new Due("README.md");

    public static void main(String[] args) throws Exception {
        String readme = Files.readString(Path.of("README.md"));
        example(readme);
        constants(readme);
        everyTestIsTold(readme);
        String document = Rows.readDocument();
        if (document != null) {
            calls(readme, document);
        }
        DUE.end();
    }

    private static void example(String readme) {
        TwiceHeard x = new TwiceHeard();
        Matcher m = Pattern.compile("(?m)^x\\.(.*?); *// (-?\\d+): ").matcher(readme);
        int rows = 0;
        while (m.find()) {
            rows++;
            for (Call c : Call.readAll(m.group(1))) {
                DUE.is("the example's " + c, c.on(x), Long.parseLong(m.group(2)));
            }
        }
        DUE.is("rows of the example that are asked", rows, Pattern.compile("(?m)^x\\.").matcher(readme).results().count());
        DUE.holds("there is an example", rows > 0);
    }

    private static void constants(String readme) {
        String[] inOrder = {"UNKNOWN", "OUTSIDE", "NOT", "FULL"};
        for (int i = 0; i < inOrder.length; i++) {
            DUE.holds(inOrder[i] + " with its place and its number",
                readme.contains("\n| " + (i + 1) + " | `" + inOrder[i] + "` | " + Call.number(inOrder[i]) + " | "));
        }
        DUE.holds("NONE with its number", readme.contains("`NONE` (-1)"));
        DUE.holds("for how many calls an object is used", readme.contains("at most 512 calls"));
    }

    private static void everyTestIsTold(String readme) {
        for (String file : Path.of("src/test/java").toFile().list()) {
            if (file.endsWith("Test.java")) {
                DUE.holds(file + " is told", readme.contains("`" + file.replace(".java", "") + "`"));
            }
        }
    }

    /** "## Promise 12: node `int node(int linked, int hears)`: .. UNKNOWN (..), OUTSIDE (..), FULL (9)." */
    private static void calls(String readme, String document) {
        Matcher m = Pattern.compile("## Promise \\d+: \\w+ `((?:int|long) [^`]*)`:(.*?)(?= ## )").matcher(document);
        int calls = 0;
        while (m.find()) {
            calls++;
            Matcher row = Pattern.compile("(?m)^\\| `" + Pattern.quote(m.group(1)) + "` \\|.*\\|([^|]*)\\|$").matcher(readme);
            boolean found = row.find();
            DUE.holds(m.group(1) + " has a row", found);
            DUE.holds(m.group(1) + " has its refusals", found && refusalsIn(row.group(1)).equals(refusalsIn(m.group(2))));
        }
        DUE.is("calls of the document", calls, 24);
    }

    private static Set<String> refusalsIn(String text) {
        Set<String> all = new TreeSet<>();
        Matcher m = Pattern.compile("\\b(UNKNOWN|OUTSIDE|NOT|FULL)\\b").matcher(text);
        while (m.find()) {
            all.add(m.group());
        }
        return all;
    }
}
