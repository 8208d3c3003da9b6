import java.util.ArrayList;
import java.util.List;

/**
 * All that can be seen of an object that a run of calls has made: what it answers, what it is as after each undoing,
 * what it is as after each going back. The run is made anew on as many objects as that needs, none of which gets more
 * calls than the document allows.
 */
final class Look {
    private static final int MOST_CALLS = 512;
    private static final List<Call> SECTION_1 = sectionOne();
    private static final List<Call> ALL = all();

    private Look() {
    }

    private static List<Call> sectionOne() {
        List<Call> asked = new ArrayList<>();
        asked.addAll(Call.readAll("told(0|1|2|3|4|12|13)"));
        asked.addAll(Call.readAll("at(0|1|2|3|4|5|6|7|8, 1|3)"));
        for (int u = 0; u < 9; u++) {
            for (int v = 0; v < 9; v++) {
                asked.add(new Call("isLost", u, v));
            }
        }
        return asked;
    }

    private static List<Call> all() {
        List<Call> asked = new ArrayList<>(SECTION_1);
        asked.addAll(Call.readAll("told(5|6|7|8|9|10|11)"));
        asked.addAll(Call.readAll("at(0|1|2|3|4|5|6|7|8, 0|2|4|5)"));
        asked.addAll(Call.readAll("mark(0|1|2|3|4|5|6|7|8|9|10|11|12|13|14|15, 0|1)"));
        asked.addAll(Call.readAll("holds(0|1|2|3|4|5|6|7|8, 0|1|2|3)"));
        asked.addAll(Call.readAll("guess(0|1|2|3|4|5|6|7|8, 1|2)"));
        asked.addAll(Call.readAll("off(1|2)"));
        for (int k = 0; k <= 20; k++) {
            asked.addAll(Call.readAll("letter(" + k + ", 0|1|2)"));
            asked.addAll(Call.readAll("sent(" + k + ", 0|1|2|3)"));
        }
        return asked;
    }

    static List<Long> behind(List<Call> run) {
        List<Long> seen = new ArrayList<>();
        ask(run, null, ALL, seen);
        for (int n = 1; n <= 16; n++) {
            ask(run, new Call("undo", n, 0), SECTION_1, seen);
        }
        for (int i = 0; i < 2; i++) {
            ask(run, new Call("goBack", i, 0), SECTION_1, seen);
        }
        return seen;
    }

    private static void ask(List<Call> run, Call last, List<Call> questions, List<Long> seen) {
        int room = MOST_CALLS - run.size() - 1;
        if (room < 1) {
            throw new IllegalArgumentException("a run of " + run.size() + " calls leaves no room for a look");
        }
        for (int from = 0; from < questions.size(); from += room) {
            TwiceHeard x = made(run);
            if (last != null && Call.isRefusal(record(last.on(x), seen))) {
                return;
            }
            for (Call q : questions.subList(from, Math.min(questions.size(), from + room))) {
                record(q.on(x), seen);
            }
        }
    }

    private static TwiceHeard made(List<Call> run) {
        TwiceHeard x = new TwiceHeard();
        for (Call c : run) {
            c.on(x);
        }
        return x;
    }

    private static long record(long answer, List<Long> seen) {
        seen.add(answer);
        return answer;
    }
}
