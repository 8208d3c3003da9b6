import java.io.IOException;
import java.nio.file.Files;
import java.nio.file.Path;
import java.util.ArrayList;
import java.util.List;
import java.util.Set;
import java.util.TreeSet;

/**
 * Tests as rows of calls. A test bears the words of the document that it stands for and is a run on a new object, a row
 * for each call: "call(..) = answer that is due", or "call(..)" where the answer is not asked; "20 * call(..)" is twenty
 * calls; "#" begins a remark; ";" parts rows as the line's end does. Where a refusal is due, all that can be seen of the
 * object is looked at before and after it, and must be alike.
 */
final class Rows {
    private static final int MOST_CALLS = 512;
    private static final Path DOCUMENT = Path.of("../shared/DOC.md");
    /** The words of all tests of this run of the machine. */
    static final Set<String> QUOTED = new TreeSet<>();
    /** Set by DocumentTest, which asks for the tests' words alone. */
    static boolean wordsAlone = false;

    private final String about;
    private final String document;
    private int tests = 0;
    private int failed = 0;
    private int refusals = 0;

    private String words;
    private TwiceHeard x;
    private List<Call> run;
    private int wrong;
    /** What was seen behind the first lookedBehind calls of the run. */
    private List<Long> seen;
    private int lookedBehind;

    Rows(String about) {
        this.about = about;
        this.document = readDocument();
    }

    /** Without the document at hand the words can't be compared; the rows hold all the same. */
    static String readDocument() {
        try {
            return Files.isReadable(DOCUMENT) ? flat(Files.readString(DOCUMENT)) : null;
        } catch (IOException e) {
            return null;
        }
    }

    private static String flat(String text) {
        return text.replaceAll("\\s+", " ").trim();
    }

    void test(String itsWords, String... rows) {
        words = itsWords;
        x = new TwiceHeard();
        run = new ArrayList<>();
        wrong = 0;
        seen = null;
        lookedBehind = -1;
        tests++;
        if (document != null && !document.contains(flat(itsWords))) {
            tell("these words are not in the document");
        }
        QUOTED.add(flat(itsWords));
        if (!wordsAlone) {
            make(rows);
        }
        failed += wrong == 0 ? 0 : 1;
    }

    private void make(String... rows) {
        for (String part : rows) {
            for (String line : part.split("\n")) {
                line(line.split("#", 2)[0]);
            }
        }
    }

    private void line(String line) {
        for (String row : line.split(";")) {
            if (!row.isBlank()) {
                row(row.trim());
            }
        }
    }

    private void row(String row) {
        String[] sides = row.split(" = ");
        for (Call c : Call.readAll(sides[0])) {
            call(c, sides.length == 2 ? Call.number(sides[1]) : null);
        }
    }

    private void call(Call c, Long due) {
        if (run.size() >= MOST_CALLS) {
            throw new IllegalStateException(words + ": more than 512 calls");
        }
        boolean refused = due != null && Call.isRefusal(due);
        if (refused) {
            look();
        }
        long answer = c.on(x);
        run.add(c);
        if (due != null && answer != due) {
            tell(c + " answered " + answer + ", due is " + due);
        }
        if (refused) {
            refusals++;
            List<Long> before = seen;
            look();
            if (!before.equals(seen)) {
                tell(c + " was refused, but changed something");
            }
        }
    }

    private void look() {
        if (lookedBehind != run.size()) {
            seen = Look.behind(run);
            lookedBehind = run.size();
        }
    }

    private void tell(String what) {
        wrong++;
        System.out.println("\"" + words + "\", call " + run.size() + ": " + what);
    }

    void end() {
        System.out.println(about + ": " + tests + " tests, " + failed + " failed; " + refusals + " refusals looked at");
        if (failed != 0) {
            System.exit(1);
        }
    }
}
