import java.util.ArrayList;
import java.util.List;

/** "What is refused changes nothing": every refusal of every call, in states from nothing at all to all that may be. */
public final class RefusalsTest {
    private static final String WORDS = "What is refused changes nothing.";
    private static final Rows ROWS = new Rows("refusals");
    private static final Due DUE = new Due("questions");

    /** Two nodes without a way to the middle; one image; deeds to undo; a book whose last entry is wrong. */
    private static final String MIDST = Nets.LATTICE + """
        node(0, 255); node(64, 1); lose(0, 1); lose(3, 5); seed(77); write(0, 10); write(5, 2); write(6, 3)
        keep(1); salt(9); mode(1); drift(3); hear(2, 99); lose(0, 2)
        """;
    /** Nine nodes, all linked with all, all links lost but those of node 8; all else at its greatest, too. */
    private static final String FULL_OF_ALL = """
        node(1, 65535); node(3, 65535); node(7, 65535); node(15, 65535); node(31, 65535); node(63, 65535); node(127, 65535)
        lose(0, 1|2|3|4|5|6|7); lose(1, 2|3|4|5|6|7); lose(2, 3|4|5|6|7); lose(3, 4|5|6|7); lose(4, 5|6|7); lose(5, 6|7)
        lose(6, 7); keep(0); node(255, 65535); keep(1); seed(HIGH); 16 * salt(65535); mode(1); 20 * write(8, 10)
        """;

    /** Whatever is so: <N> is how many nodes there are, <K> how many letters. */
    private static final String ALWAYS = """
        told(-1|14|LOW|HIGH) = OUTSIDE
        at(-1|<N>|9|LOW|HIGH, -1|0|5|6) = UNKNOWN; at(0, -1|6|LOW|HIGH) = OUTSIDE
        isLost(0, -1|0|<N>|32|LOW|HIGH) = UNKNOWN; isLost(-1|<N>|32|LOW|HIGH, 0) = UNKNOWN; isLost(<N>, <N>) = UNKNOWN
        mark(-1|16|LOW|HIGH, 0|1) = OUTSIDE; mark(0|15, -1|2|LOW|HIGH) = OUTSIDE
        holds(-1|<N>|9|LOW|HIGH, -1|0|3|4) = UNKNOWN; holds(0, -1|4|LOW|HIGH) = OUTSIDE
        guess(-1|<N>|9|LOW|HIGH, 0|1|2|3) = UNKNOWN; guess(0, -1|0|3|LOW|HIGH) = OUTSIDE
        off(-1|0|3|LOW|HIGH) = OUTSIDE
        letter(-1|<K>|36|LOW|HIGH, -1|0|2|3) = UNKNOWN; sent(-1|<K>|36|LOW|HIGH, -1|0|3|4) = UNKNOWN
        rows(0|9|LOW|HIGH, 0|8) = OUTSIDE; rows(1|8, -1|9|LOW|HIGH) = OUTSIDE
        """;
    private static final String ALWAYS_OF_DEEDS = """
        node(-1|512|LOW|HIGH, -1|0|65535|65536) = UNKNOWN; node(0|1, -1|65536|LOW|HIGH) = OUTSIDE
        link(0, -1|0|<N>|32|LOW|HIGH) = UNKNOWN; link(-1|<N>|32|LOW|HIGH, 0) = UNKNOWN; link(<N>, <N>) = UNKNOWN
        lose(0, -1|0|<N>|32|LOW|HIGH) = UNKNOWN; lose(-1|<N>|32|LOW|HIGH, 0) = UNKNOWN; lose(<N>, <N>) = UNKNOWN
        hear(-1|<N>|9|LOW|HIGH, -1|0|65535|65536) = UNKNOWN; hear(0, -1|65536|LOW|HIGH) = OUTSIDE
        salt(-1|65536|LOW|HIGH) = OUTSIDE; mode(-1|2|LOW|HIGH) = OUTSIDE; drift(-1|0|13|LOW|HIGH) = OUTSIDE
        undo(-1|0|17|LOW|HIGH) = OUTSIDE
        write(-1|<N>|9|LOW|HIGH, -1|0|10) = UNKNOWN; seed(-1|LOW) = OUTSIDE
        keep(-1|2|LOW|HIGH) = UNKNOWN; goBack(-1|2|LOW|HIGH) = UNKNOWN
        """;
    /** Each of these is answered, and leaves all as it is. */
    private static final String QUESTIONS = """
        told(0|1|2|3|4|5|6|7|8|9|10|11|12|13); at(0|1|5|8, 0|1|2|3|4|5); isLost(0|1, 1|2|8); mark(0|15, 0|1)
        holds(0|1|6|8, 0|1|2|3); guess(0|1|6|8, 1|2); off(1|2); letter(0|1|7, 0|1|2); sent(0|1|7, 0|1|2|3); rows(1|8, 0|4|8)
        """;

    public static void main(String[] args) {
        refusedIn("", 1, 0, "take() = NOT; undo(1|16) = NOT; goBack(0|1) = NOT; node(2|3, 0) = UNKNOWN; link(0, 1) = UNKNOWN");
        refusedIn(MIDST, 8, 5, """
            isLost(0, 3|6|7) = UNKNOWN; isLost(1, 2) = UNKNOWN; lose(0, 3|6|7) = UNKNOWN; lose(1, 2) = UNKNOWN
            undo(8|16) = NOT; goBack(0) = NOT; node(256|257|511, 0) = UNKNOWN; node(255, 65536) = OUTSIDE
            holds(6, -1|4) = OUTSIDE; guess(7, 0|3) = OUTSIDE; letter(0|4, -1|3) = OUTSIDE; sent(0|4, -1|4) = OUTSIDE
            """);
        refusedIn(FULL_OF_ALL, 9, 8, """
            node(0|1|511, 0|65535) = FULL; node(511, 65536) = OUTSIDE; write(0|8, 0|10|-1) = FULL
            letter(0|7, -1|3) = OUTSIDE; sent(0|7, -1|4) = OUTSIDE
            """);
        for (String state : new String[] {"", MIDST, FULL_OF_ALL}) {
            questionsIn(state);
        }
        DUE.end();
        ROWS.end();
    }

    private static void refusedIn(String state, int nodes, int letters, String more) {
        String ready = state + "told(0) = " + nodes + "; told(8) = " + letters + "\n";
        for (String rows : (ALWAYS + ALWAYS_OF_DEEDS + more).split("[;\n]")) {
            if (!rows.isBlank()) {
                ROWS.test(WORDS, ready, rows.replace("<N>", "" + nodes).replace("<K>", "" + letters));
            }
        }
    }

    private static void questionsIn(String state) {
        List<Call> run = Call.readAll(state);
        List<Long> before = Look.behind(run);
        for (Call question : Call.readAll(QUESTIONS)) {
            List<Call> longer = new ArrayList<>(run);
            longer.add(question);
            DUE.holds(question + " leaves all as it is", Look.behind(longer).equals(before));
        }
    }
}
