import java.nio.file.Files;
import java.nio.file.Path;
import java.util.List;
import java.util.regex.Matcher;
import java.util.regex.Pattern;

/** What of LANGUAGE.md can be seen from the words of the source. .ci/run starts it in the project's folder. */
public final class LanguageTest {
    private static final String[] RULED_OUT = {
        "\\bthrow\\b", "\\bthrows\\b", "\\btry\\b", "\\bcatch\\b", "\\bsynchronized\\b", "\\bassert\\b", "\\bpackage\\b",
        "\\bprotected\\b", "->", "::", "Exact\\b", "\\bRandom\\b", "\\bnanoTime\\b", "\\bcurrentTimeMillis\\b",
        "\\bThread\\b", "\\bhashCode\\b", "\\btoString\\b", "\\bvar\\b", "while \\(true\\)", "for \\(;;\\)",
        "\\[\\]\\[\\]\\[\\]"};
    private static final int LONGEST_METHOD = 60;

    public static void main(String[] args) throws Exception {
        Due due = new Due("the language");
        List<String> lines = Files.readAllLines(Path.of("src/main/java/TwiceHeard.java"));
        String code = withoutComments(String.join("\n", lines));
        for (String pattern : RULED_OUT) {
            due.holds("no " + pattern, !Pattern.compile(pattern).matcher(code).find());
        }
        imports(due, code);
        statics(due, code);
        methodLengths(due, lines);
        due.holds("signs 1 to 127", code.chars().allMatch(c -> c > 0 && c < 128));
        due.end();
    }

    private static String withoutComments(String text) {
        return text.replaceAll("(?s)/\\*.*?\\*/", "").replaceAll("//[^\n]*", "");
    }

    private static void imports(Due due, String code) {
        Matcher m = Pattern.compile("import ([^;]*);").matcher(code);
        while (m.find()) {
            due.holds("import " + m.group(1),
                List.of("java.util.Arrays", "java.util.ArrayList", "java.util.List").contains(m.group(1)));
        }
    }

    /** A static field is final; a static initialiser there is not. */
    private static void statics(Due due, String code) {
        due.holds("no static block", !Pattern.compile("static\\s*\\{").matcher(code).find());
        Matcher m = Pattern.compile("\\bstatic\\s+(?!final\\b)[^;({]*[;=]").matcher(code);
        due.holds("static fields are final", !m.find());
    }

    /** A method stands at 4 or 8 blanks and ends with a brace at the same place. */
    private static void methodLengths(Due due, List<String> lines) {
        for (int i = 0; i < lines.size(); i++) {
            Matcher m = Pattern.compile("^( {4}| {8})\\S.*\\) \\{$").matcher(lines.get(i));
            if (!m.find()) {
                continue;
            }
            int end = i;
            while (end < lines.size() && !lines.get(end).equals(m.group(1) + "}")) {
                end++;
            }
            due.holds(lines.get(i).trim() + " is short", end - i <= LONGEST_METHOD);
        }
    }
}
