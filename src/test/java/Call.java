import java.util.ArrayList;
import java.util.List;
import java.util.Map;

/** One call as it is written in a row, to be made on as many objects as are wanted. */
record Call(String name, int a, int b) {
    private static final Map<String, Long> NAMES = Map.of(
        "NONE", -1L, "UNKNOWN", -1000000001L, "OUTSIDE", -1000000002L, "NOT", -1000000003L, "FULL", -1000000004L,
        "LOW", (long) Integer.MIN_VALUE, "HIGH", (long) Integer.MAX_VALUE);

    /** Calls parted by ";" or by the line's end; "20 * take()" is twenty of them. */
    static List<Call> readAll(String text) {
        List<Call> calls = new ArrayList<>();
        for (String part : text.split("[;\n]")) {
            String[] times = part.trim().split(" \\* ");
            for (int i = times.length == 2 ? Integer.parseInt(times[0]) : 1; i > 0 && !part.isBlank(); i--) {
                calls.addAll(read(times[times.length - 1]));
            }
        }
        return calls;
    }

    /** "at(0, -1|6)" is at(0, -1), then at(0, 6): each argument may have several numbers. */
    private static List<Call> read(String text) {
        int open = text.indexOf('(');
        int close = text.lastIndexOf(')');
        if (open < 1 || close != text.length() - 1) {
            throw new IllegalArgumentException("no call: " + text);
        }
        String[] arguments = text.substring(open + 1, close).split(",");
        List<Call> calls = new ArrayList<>();
        for (String first : arguments[0].isBlank() ? new String[] {"0"} : arguments[0].split("\\|")) {
            for (String second : arguments.length < 2 ? new String[] {"0"} : arguments[1].split("\\|")) {
                calls.add(new Call(text.substring(0, open), Math.toIntExact(number(first)), Math.toIntExact(number(second))));
            }
        }
        return calls;
    }

    /** Sums of products of numbers and of the names above. */
    static long number(String text) {
        long sum = 0;
        for (String product : text.split("\\+")) {
            long made = 1;
            for (String factor : product.split("\\*")) {
                String f = factor.trim();
                made *= NAMES.containsKey(f) ? NAMES.get(f) : Long.parseLong(f);
            }
            sum += made;
        }
        return sum;
    }

    static boolean isRefusal(long answer) {
        return answer <= NAMES.get("UNKNOWN") && answer >= NAMES.get("FULL");
    }

    long on(TwiceHeard x) {
        return switch (name) {
            case "told" -> x.told(a);
            case "at" -> x.at(a, b);
            case "isLost" -> x.isLost(a, b);
            case "mark" -> x.mark(a, b);
            case "holds" -> x.holds(a, b);
            case "guess" -> x.guess(a, b);
            case "off" -> x.off(a);
            case "letter" -> x.letter(a, b);
            case "sent" -> x.sent(a, b);
            case "rows" -> x.rows(a, b);
            case "node" -> x.node(a, b);
            case "take" -> x.take();
            case "link" -> x.link(a, b);
            case "lose" -> x.lose(a, b);
            case "hear" -> x.hear(a, b);
            case "salt" -> x.salt(a);
            case "mode" -> x.mode(a);
            case "drift" -> x.drift(a);
            case "undo" -> x.undo(a);
            case "write" -> x.write(a, b);
            case "tear" -> x.tear();
            case "seed" -> x.seed(a);
            case "keep" -> x.keep(a);
            case "goBack" -> x.goBack(a);
            default -> throw new IllegalArgumentException("no such call: " + name);
        };
    }

    @Override
    public String toString() {
        return name + "(" + a + ", " + b + ")";
    }
}
