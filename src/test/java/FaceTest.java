import java.lang.reflect.Constructor;
import java.lang.reflect.Field;
import java.lang.reflect.Method;
import java.lang.reflect.Modifier;
import java.nio.file.Files;
import java.nio.file.Path;
import java.util.Set;
import java.util.TreeSet;
import java.util.regex.Matcher;
import java.util.regex.Pattern;

/** The face is the document's, and nothing else can be seen from outside. */
public final class FaceTest {
    private static final String[] METHODS = {
        "int told(int)", "int at(int,int)", "int isLost(int,int)", "int mark(int,int)", "long holds(int,int)",
        "int guess(int,int)", "int off(int)", "int letter(int,int)", "long sent(int,int)", "long rows(int,int)",
        "int node(int,int)", "int take()", "int link(int,int)", "int lose(int,int)", "int hear(int,int)",
        "int salt(int)", "int mode(int)", "int drift(int)", "int undo(int)", "int write(int,int)", "int tear()",
        "int seed(int)", "int keep(int)", "int goBack(int)"};

    public static void main(String[] args) throws Exception {
        Due due = new Due("the face");
        Class<?> c = TwiceHeard.class;
        due.holds("public final class", Modifier.isPublic(c.getModifiers()) && Modifier.isFinal(c.getModifiers()));
        methods(due, c);
        constants(due, c);
        Constructor<?>[] made = c.getDeclaredConstructors();
        due.holds("one public constructor without parameters",
            made.length == 1 && Modifier.isPublic(made[0].getModifiers()) && made[0].getParameterCount() == 0);
        for (Class<?> inside : c.getDeclaredClasses()) {
            due.holds(inside + " is static", Modifier.isStatic(inside.getModifiers()));
            due.holds(inside + " isn't public", !Modifier.isPublic(inside.getModifiers()));
        }
        String document = Rows.readDocument();
        if (document != null) {
            String source = Files.readString(Path.of("src/main/java/TwiceHeard.java"));
            asWritten(due, document, source);
            groups(due, document, source);
        }
        due.end();
    }

    /** Each row of the document's face stands in the source, in the same order, parameters' names too. */
    private static void asWritten(Due due, String document, String source) {
        Matcher face = Pattern.compile("```java public final class TwiceHeard \\{ (.*?) \\} ```").matcher(document);
        due.holds("the document has a face", face.find());
        int behind = -1;
        int rows = 0;
        for (String row : face.group(1).split("; ?")) {
            int at = source.indexOf("\n    " + row + (row.endsWith(")") ? " {\n" : ";\n"));
            due.holds(row + " stands as in the document, in its order", at > behind);
            behind = at;
            rows++;
        }
        due.is("constants' row, constructor, methods", rows, 2 + METHODS.length);
    }

    /** The document says which line stands ahead of which calls. */
    private static void groups(Due due, String document, String source) {
        Matcher m = Pattern.compile("Ahead of the calls ([^.]*) the interface says: (---- [a-z ]+)\\.").matcher(document);
        int groups = 0;
        while (m.find()) {
            groups++;
            int line = source.indexOf("\n    // " + m.group(2) + "\n");
            int next = source.indexOf("\n    // ----", line + 1);
            due.holds(m.group(2) + " stands in the source", line >= 0 && next > line);
            for (String name : m.group(1).split(", ")) {
                int call = source.indexOf(" " + name.replace("`", "") + "(", line);
                due.holds(name + " stands below " + m.group(2), call > line && call < next);
            }
        }
        due.is("groups of calls", groups, 4);
    }

    private static void methods(Due due, Class<?> c) {
        Set<String> seen = new TreeSet<>();
        Set<String> names = new TreeSet<>();
        for (Method m : c.getDeclaredMethods()) {
            if (Modifier.isPublic(m.getModifiers())) {
                names.add(m.getName());
                seen.add(shape(m));
                due.holds(m + " belongs to an object", !Modifier.isStatic(m.getModifiers()));
            }
        }
        due.holds("methods are " + seen, seen.equals(new TreeSet<>(Set.of(METHODS))));
        for (Method m : c.getDeclaredMethods()) {
            if (!Modifier.isPublic(m.getModifiers())) {
                due.holds(m + " is private", Modifier.isPrivate(m.getModifiers()) || m.isSynthetic());
                due.holds(m + " has a name of its own", !names.contains(m.getName()));
            }
        }
    }

    private static String shape(Method m) {
        StringBuilder s = new StringBuilder(m.getReturnType() + " " + m.getName() + "(");
        for (int i = 0; i < m.getParameterCount(); i++) {
            s.append(i == 0 ? "" : ",").append(m.getParameterTypes()[i]);
        }
        return s.append(")").toString();
    }

    private static void constants(Due due, Class<?> c) {
        Set<String> seen = new TreeSet<>();
        for (Field f : c.getDeclaredFields()) {
            int how = f.getModifiers();
            if (Modifier.isPublic(how)) {
                seen.add(f.getType() + " " + f.getName());
                due.holds(f + " is a constant", Modifier.isStatic(how) && Modifier.isFinal(how));
            } else {
                due.holds(f + " is private", Modifier.isPrivate(how));
            }
        }
        due.holds("constants are " + seen, seen.equals(new TreeSet<>(
            Set.of("int NONE", "int UNKNOWN", "int OUTSIDE", "int NOT", "int FULL"))));
        due.is("NONE", TwiceHeard.NONE, -1);
        due.is("UNKNOWN", TwiceHeard.UNKNOWN, -1000000001);
        due.is("OUTSIDE", TwiceHeard.OUTSIDE, -1000000002);
        due.is("NOT", TwiceHeard.NOT, -1000000003);
        due.is("FULL", TwiceHeard.FULL, -1000000004);
    }
}
