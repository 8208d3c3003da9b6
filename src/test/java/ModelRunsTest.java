/** Long runs of drawn calls: the program and the model answer alike, each object up to its 512th call. */
public final class ModelRunsTest {
    private static final int RUNS = 300;
    private static final int CALLS = 512;
    private static final int[] ODD_NUMBERS = {
        -1, -2, 9, 10, 15, 16, 17, 20, 21, 256, 512, 65535, 65536, Integer.MIN_VALUE, Integer.MAX_VALUE, -65536};
    /** Salts whose marks are few, or small, or of high ranks. */
    private static final int[] ODD_SALTS = {0, 1, 65535, 13130, 1084, 4454, 116, 7, 45, 119, 156, 168, 12345};

    private final Due due;
    private final TwiceHeard x = new TwiceHeard();
    private final Model m = new Model();
    private final int run;
    private long state;

    private ModelRunsTest(Due due, int run) {
        this.due = due;
        this.run = run;
        this.state = 88172645463325252L + 7919L * run;
    }

    public static void main(String[] args) {
        Due due = new Due("runs beside the model");
        for (int run = 0; run < RUNS; run++) {
            ModelRunsTest r = new ModelRunsTest(due, run);
            for (int call = 0; call < CALLS; call++) {
                r.step();
            }
        }
        everyRow(due);
        due.end();
    }

    private static void everyRow(Due due) {
        for (int n = -1; n <= 10; n++) {
            for (int z = -1; z <= 10; z++) {
                due.is("rows(" + n + ", " + z + ")", new TwiceHeard().rows(n, z), new Model().rows(n, z));
            }
        }
    }

    private int pick(int n) {
        state ^= state << 13;
        state ^= state >>> 7;
        state ^= state << 17;
        return (int) Math.floorMod(state, (long) n);
    }

    /** Mostly a number below n, now and then an odd one. */
    private int number(int n) {
        return pick(25) == 0 ? ODD_NUMBERS[pick(ODD_NUMBERS.length)] : pick(n);
    }

    private int aNode() {
        return pick(20) == 0 ? number(11) : pick(m.told(0));
    }

    private void say(String call, int a, int b, long got, long want) {
        due.is("run " + run + ": " + call + "(" + a + ", " + b + ")", got, want);
    }

    private void step() {
        if (pick(3) == 0) {
            change();
        } else {
            ask();
        }
    }

    private void ask() {
        int v = aNode();
        int k = number(Math.max(1, m.told(8)) + 1);
        int w;
        switch (pick(9)) {
            case 0: w = number(14); say("told", w, 0, x.told(w), m.told(w)); break;
            case 1: w = number(6); say("at", v, w, x.at(v, w), m.at(v, w)); break;
            case 2: w = aNode(); say("isLost", v, w, x.isLost(v, w), m.isLost(v, w)); break;
            case 3: k = number(16); w = number(2); say("mark", k, w, x.mark(k, w), m.mark(k, w)); break;
            case 4: w = number(4); say("holds", v, w, x.holds(v, w), m.holds(v, w)); break;
            case 5: w = number(3); say("guess", v, w, x.guess(v, w), m.guess(v, w)); break;
            case 6: w = number(3); say("off", w, 0, x.off(w), m.off(w)); break;
            case 7: w = number(3); say("letter", k, w, x.letter(k, w), m.letter(k, w)); break;
            default: w = number(4); say("sent", k, w, x.sent(k, w), m.sent(k, w)); break;
        }
    }

    private void change() {
        int v = aNode();
        int w;
        switch (pick(20)) {
            case 0: case 1: case 2: case 3:
                v = number(1 << m.told(0));
                w = number(65536);
                say("node", v, w, x.node(v, w), m.node(v, w));
                break;
            case 4: say("take", 0, 0, x.take(), m.take()); break;
            case 5: case 6: w = aNode(); say("link", v, w, x.link(v, w), m.link(v, w)); break;
            case 7: case 8: case 9: w = aNode(); say("lose", v, w, x.lose(v, w), m.lose(v, w)); break;
            case 10: case 11: w = number(65536) & (pick(2) == 0 ? -1 : 0x1221); say("hear", v, w, x.hear(v, w), m.hear(v, w)); break;
            case 12: case 13: w = pick(2) == 0 ? ODD_SALTS[pick(ODD_SALTS.length)] : number(65536); say("salt", w, 0, x.salt(w), m.salt(w)); break;
            case 14: w = number(3); say("mode", w, 0, x.mode(w), m.mode(w)); break;
            case 15: w = number(14); say("drift", w, 0, x.drift(w), m.drift(w)); break;
            case 16: w = number(pick(2) == 0 ? 4 : 18); say("undo", w, 0, x.undo(w), m.undo(w)); break;
            default: other(v); break;
        }
    }

    private void other(int v) {
        int w;
        switch (pick(12)) {
            case 0: w = number(3); say("keep", w, 0, x.keep(w), m.keep(w)); break;
            case 1: w = number(3); say("goBack", w, 0, x.goBack(w), m.goBack(w)); break;
            case 2: w = number(Integer.MAX_VALUE); say("seed", w, 0, x.seed(w), m.seed(w)); break;
            case 3: if (pick(3) == 0) { say("tear", 0, 0, x.tear(), m.tear()); } break;
            default:
                w = pick(8) == 0 ? number(40) : m.guess(v, 1);
                say("write", v, w, x.write(v, w), m.write(v, w));
                break;
        }
    }
}
