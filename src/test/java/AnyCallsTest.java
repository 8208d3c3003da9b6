import java.util.Map;

/**
 * Any calls with any numbers, far beyond the 512th: no call throws, each ends, and up to the 512th each answers either
 * what is counted (NONE at the least) or a refusal that its promise names.
 */
public final class AnyCallsTest {
    private static final int RUNS = 400;
    private static final int CALLS = 1500;
    private static final int PROMISED = 512;
    private static final long UNKNOWN = -1000000001, OUTSIDE = -1000000002, NOT = -1000000003, FULL = -1000000004;

    private static final Map<String, long[]> REFUSALS = Map.ofEntries(
        may("told", OUTSIDE), may("at", UNKNOWN, OUTSIDE), may("isLost", UNKNOWN), may("mark", OUTSIDE),
        may("holds", UNKNOWN, OUTSIDE), may("guess", UNKNOWN, OUTSIDE), may("off", OUTSIDE), may("letter", UNKNOWN, OUTSIDE),
        may("sent", UNKNOWN, OUTSIDE), may("rows", OUTSIDE), may("node", UNKNOWN, OUTSIDE, FULL), may("take", NOT),
        may("link", UNKNOWN), may("lose", UNKNOWN), may("hear", UNKNOWN, OUTSIDE), may("salt", OUTSIDE), may("mode", OUTSIDE),
        may("drift", OUTSIDE), may("undo", OUTSIDE, NOT), may("write", UNKNOWN, FULL), may("tear"), may("seed", OUTSIDE),
        may("keep", UNKNOWN), may("goBack", UNKNOWN, NOT));
    private static final String[] NAMES = REFUSALS.keySet().stream().sorted().toArray(String[]::new);
    private static final int[] FAR = {
        Integer.MIN_VALUE, Integer.MIN_VALUE + 1, -1000000001, -65536, -2, -1, 9, 16, 31, 32, 33, 63, 64, 511, 512, 65535, 65536,
        1 << 30, Integer.MAX_VALUE - 1, Integer.MAX_VALUE};

    private long state;

    private AnyCallsTest(int run) {
        state = 0x9E3779B97F4A7C15L * (run + 1);
    }

    private static Map.Entry<String, long[]> may(String name, long... refusals) {
        return Map.entry(name, refusals);
    }

    public static void main(String[] args) {
        Due due = new Due("any calls");
        due.is("calls of the face", NAMES.length, 24);
        for (int run = 0; run < RUNS; run++) {
            new AnyCallsTest(run).make(due, run);
        }
        due.end();
    }

    private void make(Due due, int run) {
        TwiceHeard x = new TwiceHeard();
        for (int i = 0; i < CALLS; i++) {
            Call c = new Call(NAMES[pick(NAMES.length)], number(), number());
            long answer = answered(c, x);
            if (i < PROMISED) {
                due.holds("run " + run + ", call " + i + ": " + c + " answered " + answer + ": that it may",
                    answer >= -1 || isNamed(c.name(), answer));
            } else {
                due.holds("run " + run + ", call " + i + ": " + c + " ends", answer != Long.MIN_VALUE);
            }
        }
    }

    /** So that a call that throws is told with its run, and the others go on. */
    private static long answered(Call c, TwiceHeard x) {
        try {
            return c.on(x);
        } catch (RuntimeException e) {
            System.out.println(c + " threw " + e);
            return Long.MIN_VALUE;
        }
    }

    private static boolean isNamed(String name, long answer) {
        for (long refusal : REFUSALS.get(name)) {
            if (refusal == answer) {
                return true;
            }
        }
        return false;
    }

    private int pick(int n) {
        state ^= state << 13;
        state ^= state >>> 7;
        state ^= state << 17;
        return (int) Math.floorMod(state, (long) n);
    }

    /** Mostly one that may be within bounds, else one far off, else any. */
    private int number() {
        switch (pick(10)) {
            case 0: return FAR[pick(FAR.length)];
            case 1: return (int) (state >>> 16);
            case 2: return pick(65536);
            case 3: return pick(21);
            default: return pick(9);
        }
    }
}
