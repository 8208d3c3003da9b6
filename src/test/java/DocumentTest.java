import java.util.Arrays;
import java.util.regex.Matcher;
import java.util.regex.Pattern;

/** No sentence of the document without a test: each word of it stands in a test's words or in the list below. */
public final class DocumentTest {
    /** Parts that no run of calls can be asked about, each as a pattern. */
    private static final String[] NOT_BY_ROWS = {
        "#+ (TwiceHeard|What it is|The public face|Terms|Not promised)", "## Promise \\d+: [A-Za-z ]+?(?= `)",
        "======== \\d", "```text", "```",
        // FaceTest looks at these.
        "```java .*? ```", "Ahead of the calls [^.]* the interface says: ---- [a-z ]+\\.",
        // What is left free or not promised; AnyCallsTest sees that later calls end, too.
        "what later calls answer is free\\.", "How the state is held inside .*$",
        // Of the document's own way of writing.
        "Words in capitals are told where they come first\\."};

    public static void main(String[] args) {
        Due due = new Due("sentences with a test");
        String document = Rows.readDocument();
        if (document == null) {
            System.out.println("the document is not at hand: its words can't be compared");
            return;
        }
        Rows.wordsAlone = true;
        BoundsTermsTest.main(args);
        BoundsPromisesTest.main(args);
        SentencesTest.main(args);
        boolean[] met = new boolean[document.length()];
        for (String words : Rows.QUOTED) {
            for (int i = document.indexOf(words); i >= 0; i = document.indexOf(words, i + 1)) {
                Arrays.fill(met, i, i + words.length(), true);
            }
        }
        for (String pattern : NOT_BY_ROWS) {
            Matcher m = Pattern.compile(pattern).matcher(document);
            while (m.find()) {
                Arrays.fill(met, m.start(), m.end(), true);
            }
        }
        tellMissing(due, document, met);
        due.end();
    }

    /** A part between two that are met must have a test if there is a letter or a digit in it. */
    private static void tellMissing(Due due, String document, boolean[] met) {
        int end;
        for (int i = 0; i < met.length; i = end + 1) {
            end = i;
            while (end < met.length && !met[end]) {
                end++;
            }
            String part = document.substring(i, end);
            if (!part.isEmpty()) {
                due.holds("a test for: " + part, part.chars().noneMatch(Character::isLetterOrDigit));
            }
        }
    }
}
