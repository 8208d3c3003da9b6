import java.lang.reflect.Field;
import java.lang.reflect.Method;
import java.lang.reflect.Modifier;
import java.nio.file.Files;
import java.nio.file.Path;
import java.util.ArrayList;
import java.util.List;
import java.util.Set;
import java.util.TreeSet;
import java.util.regex.Matcher;
import java.util.regex.Pattern;

/** What of LANGUAGE.md can be seen from the words of the source. .ci/run starts it in the project's folder. */
public final class LanguageTest {
    private static final String[] RULED_OUT = {
        "\\bthrow\\b", "\\bthrows\\b", "\\btry\\b", "\\bcatch\\b", "\\bsynchronized\\b", "\\bassert\\b", "\\bpackage\\b",
        "\\bprotected\\b", "->", "::", "Exact\\b", "\\bRandom\\b", "\\bnanoTime\\b", "\\bcurrentTimeMillis\\b",
        "\\bThread\\b", "\\bhashCode\\b", "\\btoString\\b", "\\bvar\\b", "while \\(true\\)", "for \\(;;\\)",
        "\\[\\]\\[\\]\\[\\]"};
    private static final Set<String> LIBRARY = Set.of("Integer.bitCount", "Math.min", "Math.max", "Math.abs", "Arrays.fill",
        "Arrays.copyOf", "Arrays.copyOfRange", "System.arraycopy");
    private static final int LONGEST_METHOD = 60;
    private static final int MOST_CLASSES = 12;
    private static final int MOST_FIELDS = 20;
    private static final int MOST_PARAMETERS = 7;

    public static void main(String[] args) throws Exception {
        Due due = new Due("the language");
        List<String> lines = Files.readAllLines(Path.of("src/main/java/TwiceHeard.java"));
        String code = withoutComments(String.join("\n", lines));
        for (String pattern : RULED_OUT) {
            due.holds("no " + pattern, !Pattern.compile(pattern).matcher(code).find());
        }
        imports(due, code);
        statics(due, code);
        library(due, code);
        methodLengths(due, lines);
        madeInConstructors(due, code);
        classes(due);
        due.holds("signs 1 to 127", code.chars().allMatch(c -> c > 0 && c < 128));
        due.end();
    }

    private static String withoutComments(String text) {
        return text.replaceAll("(?s)/\\*.*?\\*/", "").replaceAll("//[^\n]*", "");
    }

    private static void imports(Due due, String code) {
        Matcher m = Pattern.compile("import ([^;]*);").matcher(code);
        while (m.find()) {
            due.holds("import " + m.group(1),
                List.of("java.util.Arrays", "java.util.ArrayList", "java.util.List").contains(m.group(1)));
        }
    }

    /** A static field is final; a static initialiser there is not. */
    private static void statics(Due due, String code) {
        due.holds("no static block", !Pattern.compile("static\\s*\\{").matcher(code).find());
        Matcher m = Pattern.compile("\\bstatic\\s+(?!final\\b)[^;({]*[;=]").matcher(code);
        due.holds("static fields are final", !m.find());
    }

    /** A method stands at 4 or 8 blanks and ends with a brace at the same place. */
    private static void methodLengths(Due due, List<String> lines) {
        for (int i = 0; i < lines.size(); i++) {
            Matcher m = Pattern.compile("^( {4}| {8})\\S.*\\) \\{$").matcher(lines.get(i));
            if (!m.find()) {
                continue;
            }
            int end = i;
            while (end < lines.size() && !lines.get(end).equals(m.group(1) + "}")) {
                end++;
            }
            due.holds(lines.get(i).trim() + " is short", end - i <= LONGEST_METHOD);
        }
    }

    private static void library(Due due, String code) {
        Matcher m = Pattern.compile("\\b(Integer|Long|Math|Arrays|System|String|List)\\.\\w+").matcher(code);
        while (m.find()) {
            due.holds(m.group() + " is in the library's part", LIBRARY.contains(m.group()));
        }
    }

    /** All calls of a run live in one room: what calls need is made with the object, none of them makes more. */
    private static void madeInConstructors(Due due, String code) {
        Pattern constructor = Pattern.compile("^( +)(public )?[A-Z]\\w*\\(.*\\) \\{$");
        String end = null;
        for (String line : code.split("\n")) {
            Matcher m = constructor.matcher(line);
            if (m.find()) {
                end = m.group(1) + "}";
            } else if (line.equals(end)) {
                end = null;
            }
            if (Pattern.compile("\\bnew\\b").matcher(line).find()) {
                due.holds("made in a constructor: " + line.trim(), end != null);
            }
        }
    }

    private static void classes(Due due) {
        List<Class<?>> all = new ArrayList<>(List.of(TwiceHeard.class.getDeclaredClasses()));
        all.add(TwiceHeard.class);
        due.holds("few classes", all.size() <= MOST_CLASSES);
        Set<String> face = new TreeSet<>();
        for (Method m : TwiceHeard.class.getMethods()) {
            face.add(m.getName());
        }
        for (Class<?> c : all) {
            int fields = 0;
            for (Field f : c.getDeclaredFields()) {
                fields += Modifier.isStatic(f.getModifiers()) ? 0 : 1;
            }
            due.holds(c + " has few fields", fields <= MOST_FIELDS);
            for (Method m : c.getDeclaredMethods()) {
                due.holds(m + " has few parameters", m.getParameterCount() <= MOST_PARAMETERS);
                due.holds(m + " bears no name of the face", Modifier.isPublic(m.getModifiers()) || !face.contains(m.getName()));
            }
        }
    }
}
