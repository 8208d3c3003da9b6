import java.math.BigInteger;
import java.util.ArrayDeque;
import java.util.ArrayList;
import java.util.Deque;
import java.util.HashMap;
import java.util.List;
import java.util.Map;
import java.util.TreeSet;

/** The document again, by other means than the program's: ways are walked one by one, states are copied whole. */
final class Model {
    static final int NONE = -1, UNKNOWN = -1000000001, OUTSIDE = -1000000002, NOT = -1000000003, FULL = -1000000004;

    /** Section 1. A link is a text "u v" with u below v; its value says whether it is lost. */
    private static final class State {
        final List<TreeSet<Integer>> heard = new ArrayList<>();
        final Map<String, Boolean> links = new HashMap<>();
        int salt = 0;
        int mode = 0;

        State copy() {
            State s = new State();
            for (TreeSet<Integer> h : heard) {
                s.heard.add(new TreeSet<>(h));
            }
            s.links.putAll(links);
            s.salt = salt;
            s.mode = mode;
            return s;
        }
    }

    private State s = new State();
    private final Deque<State> past = new ArrayDeque<>();
    private final State[] images = new State[2];
    private final long[] imageSeeds = new long[2];
    private final List<int[]> book = new ArrayList<>();
    private long seed = 0;

    Model() {
        s.heard.add(new TreeSet<>());
    }

    // ---- terms

    private int size() {
        return s.heard.size();
    }

    private boolean there(int v) {
        return v >= 0 && v < size();
    }

    private static String key(int u, int v) {
        return Math.min(u, v) + " " + Math.max(u, v);
    }

    private boolean linked(int u, int v) {
        return s.links.containsKey(key(u, v));
    }

    private boolean lost(int u, int v) {
        return s.links.getOrDefault(key(u, v), false);
    }

    private static TreeSet<Integer> unpack(int set) {
        TreeSet<Integer> t = new TreeSet<>();
        for (int k = 0; k < 31; k++) {
            if ((set & 1 << k) != 0) {
                t.add(k);
            }
        }
        return t;
    }

    private static int pack(Iterable<Integer> set) {
        int p = 0;
        for (int k : set) {
            p |= 1 << k;
        }
        return p;
    }

    /** Fewest links by trying each length in turn. */
    private int ring(int v) {
        TreeSet<Integer> near = new TreeSet<>(List.of(v));
        for (int length = 0; length < 9; length++) {
            if (near.contains(0)) {
                return length;
            }
            TreeSet<Integer> further = new TreeSet<>();
            for (int a : near) {
                for (int b = 0; b < size(); b++) {
                    if (linked(a, b)) {
                        further.add(b);
                    }
                }
            }
            near = further;
        }
        return NONE;
    }

    private TreeSet<Integer> upper(int v) {
        TreeSet<Integer> t = new TreeSet<>();
        int r = ring(v);
        for (int u = 0; u < size() && r > 0; u++) {
            if (linked(u, v) && ring(u) == r - 1) {
                t.add(u);
            }
        }
        return t;
    }

    private List<Integer> tells(int v) {
        List<Integer> all = new ArrayList<>(upper(v));
        return s.mode == 1 && !all.isEmpty() ? all.subList(0, 1) : all;
    }

    private List<int[]> letters() {
        List<int[]> all = new ArrayList<>();
        for (int r = 9; r >= 1; r--) {
            for (int v = 0; v < size(); v++) {
                if (ring(v) == r) {
                    for (int u : tells(v)) {
                        all.add(new int[] {v, u, lost(u, v) ? 0 : 1});
                    }
                }
            }
        }
        return all;
    }

    /** How many ways there are from one node to another, by letters that come. */
    private int waysTo(int from, int to) {
        if (ring(from) == NONE) {
            return 0;
        }
        if (from == to) {
            return 1;
        }
        int ways = 0;
        for (int u : tells(from)) {
            ways += lost(from, u) ? 0 : waysTo(u, to);
        }
        return ways;
    }

    private int markOf(int item) {
        return BigInteger.valueOf(item + 1).multiply(BigInteger.valueOf(2L * s.salt + 1)).multiply(BigInteger.valueOf(40503))
            .mod(BigInteger.valueOf(65536)).intValue() / 64;
    }

    private int rankOf(int item) {
        int m = markOf(item);
        return m == 0 ? 7 : Math.min(7, Integer.numberOfTrailingZeros(m));
    }

    private TreeSet<Integer> itemsAt(int v) {
        TreeSet<Integer> all = new TreeSet<>();
        for (int w = 0; w < size(); w++) {
            if (waysTo(w, v) > 0) {
                all.addAll(s.heard.get(w));
            }
        }
        return all;
    }

    private TreeSet<Integer> ranksAt(int v) {
        TreeSet<Integer> all = new TreeSet<>();
        for (int i : itemsAt(v)) {
            all.add(rankOf(i));
        }
        return all;
    }

    private List<Integer> leastAt(int v) {
        TreeSet<Integer> all = new TreeSet<>();
        for (int i : itemsAt(v)) {
            all.add(markOf(i));
        }
        List<Integer> sorted = new ArrayList<>(all);
        return sorted.subList(0, Math.min(3, sorted.size()));
    }

    private long held(int v, int kind) {
        if (ring(v) == NONE) {
            return NONE;
        }
        if (kind == 0) {
            long sum = 0;
            for (int w = 0; w < size(); w++) {
                sum += (long) waysTo(w, v) * s.heard.get(w).size();
            }
            return sum;
        }
        if (kind == 1) {
            return pack(ranksAt(v));
        }
        if (kind == 3) {
            return pack(itemsAt(v));
        }
        List<Integer> least = leastAt(v);
        long answer = 0;
        long[] times = {1, 2000, 4000000};
        for (int i = 0; i < 3; i++) {
            answer += times[i] * (i < least.size() ? least.get(i) : 1024);
        }
        return answer;
    }

    private int guessed(int v, int by) {
        if (ring(v) == NONE) {
            return NONE;
        }
        if (by == 2) {
            List<Integer> least = leastAt(v);
            return least.size() < 3 ? least.size() : 2048 / (least.get(2) + 1);
        }
        TreeSet<Integer> ranks = ranksAt(v);
        int z = 0;
        while (ranks.contains(z)) {
            z++;
        }
        return ranks.isEmpty() ? 0 : (int) (Math.pow(2, z)) * 1000 / 773;
    }

    private int trueCount() {
        TreeSet<Integer> all = new TreeSet<>();
        for (int v = 0; v < size(); v++) {
            if (ring(v) != NONE) {
                all.addAll(s.heard.get(v));
            }
        }
        return all.size();
    }

    private int wrong() {
        for (int i = 0; i < book.size(); i++) {
            int v = book.get(i)[0];
            if (!there(v) || ring(v) == NONE || guessed(v, 1) != book.get(i)[1]) {
                return i;
            }
        }
        return NONE;
    }

    private void deed() {
        past.addLast(s.copy());
        if (past.size() > 16) {
            past.removeFirst();
        }
    }

    private int draw(int n) {
        seed = BigInteger.valueOf(seed).multiply(BigInteger.valueOf(1103515245)).add(BigInteger.valueOf(12345))
            .mod(BigInteger.ONE.shiftLeft(31)).longValue();
        return (int) (seed / 65536 % n);
    }

    // ---- what is so

    int told(int what) {
        switch (what) {
            case 0: return size();
            case 1: return s.links.size();
            case 2: return (int) s.links.values().stream().filter(b -> b).count();
            case 3: return s.salt;
            case 4: return s.mode;
            case 5: return greatestRing();
            case 6: return comes();
            case 7: return trueCount();
            case 8: return letters().size();
            case 9: return (int) letters().stream().filter(l -> l[2] == 0).count();
            case 10: return book.size();
            case 11: return wrong();
            case 12: return past.size();
            case 13: return (int) seed;
            default: return OUTSIDE;
        }
    }

    private int greatestRing() {
        int most = 0;
        for (int v = 0; v < size(); v++) {
            most = Math.max(most, ring(v));
        }
        return most;
    }

    private int comes() {
        TreeSet<Integer> t = new TreeSet<>();
        for (int v = 0; v < size(); v++) {
            if (waysTo(v, 0) > 0) {
                t.add(v);
            }
        }
        return pack(t);
    }

    int at(int v, int what) {
        if (!there(v)) {
            return UNKNOWN;
        }
        switch (what) {
            case 0: return ring(v);
            case 1:
                TreeSet<Integer> t = new TreeSet<>();
                for (int u = 0; u < size(); u++) {
                    if (linked(u, v)) {
                        t.add(u);
                    }
                }
                return pack(t);
            case 2: return pack(upper(v));
            case 3: return pack(s.heard.get(v));
            case 4: return waysTo(v, 0);
            case 5: return (int) letters().stream().filter(l -> l[1] == v && l[2] == 1).count();
            default: return OUTSIDE;
        }
    }

    int isLost(int u, int v) {
        return linked(u, v) ? lost(u, v) ? 1 : 0 : UNKNOWN;
    }

    int mark(int item, int what) {
        if (item < 0 || item > 15 || what < 0 || what > 1) {
            return OUTSIDE;
        }
        return what == 0 ? markOf(item) : rankOf(item);
    }

    long holds(int v, int kind) {
        return !there(v) ? UNKNOWN : kind < 0 || kind > 3 ? OUTSIDE : held(v, kind);
    }

    int guess(int v, int by) {
        return !there(v) ? UNKNOWN : by < 1 || by > 2 ? OUTSIDE : guessed(v, by);
    }

    int off(int by) {
        return by < 1 || by > 2 ? OUTSIDE : guessed(0, by) - trueCount() + 100000;
    }

    int letter(int k, int what) {
        List<int[]> all = letters();
        return k < 0 || k >= all.size() ? UNKNOWN : what < 0 || what > 2 ? OUTSIDE : all.get(k)[what];
    }

    long sent(int k, int kind) {
        List<int[]> all = letters();
        return k < 0 || k >= all.size() ? UNKNOWN : kind < 0 || kind > 3 ? OUTSIDE : held(all.get(k)[0], kind);
    }

    /** Item by item: how many rows have each set of ranks. */
    long rows(int n, int z) {
        if (n < 1 || n > 8 || z < 0 || z > 8) {
            return OUTSIDE;
        }
        long[] bySet = new long[256];
        bySet[0] = 1;
        for (int i = 0; i < n; i++) {
            long[] next = new long[256];
            for (int set = 0; set < 256; set++) {
                for (int r = 0; r < 8; r++) {
                    next[set | 1 << r] += bySet[set] * (r == 7 ? 1 : 1 << 6 - r);
                }
            }
            bySet = next;
        }
        long sum = 0;
        for (int set = 0; set < 256; set++) {
            sum += Integer.numberOfTrailingZeros(~set) == z ? bySet[set] : 0;
        }
        return sum;
    }

    // ---- deeds

    int node(int linked, int hears) {
        if (linked < 0 || linked >= 1 << size()) {
            return UNKNOWN;
        }
        if (hears < 0 || hears > 65535) {
            return OUTSIDE;
        }
        if (size() == 9) {
            return FULL;
        }
        deed();
        for (int u : unpack(linked)) {
            s.links.put(key(u, size()), false);
        }
        s.heard.add(unpack(hears));
        return size() - 1;
    }

    int take() {
        if (size() == 1) {
            return NOT;
        }
        deed();
        int v = size() - 1;
        for (int u = 0; u < v; u++) {
            s.links.remove(key(u, v));
        }
        s.heard.remove(v);
        return v;
    }

    int link(int u, int v) {
        if (!there(u) || !there(v) || u == v) {
            return UNKNOWN;
        }
        deed();
        if (s.links.remove(key(u, v)) != null) {
            return 0;
        }
        s.links.put(key(u, v), false);
        return 1;
    }

    int lose(int u, int v) {
        if (!linked(u, v)) {
            return UNKNOWN;
        }
        deed();
        s.links.put(key(u, v), !lost(u, v));
        return lost(u, v) ? 1 : 0;
    }

    int hear(int v, int set) {
        if (!there(v)) {
            return UNKNOWN;
        }
        if (set < 0 || set > 65535) {
            return OUTSIDE;
        }
        deed();
        return pack(s.heard.set(v, unpack(set)));
    }

    int salt(int v) {
        if (v < 0 || v > 65535) {
            return OUTSIDE;
        }
        deed();
        int was = s.salt;
        s.salt = v;
        return was;
    }

    int mode(int v) {
        if (v != 0 && v != 1) {
            return OUTSIDE;
        }
        deed();
        int was = s.mode;
        s.mode = v;
        return was;
    }

    int drift(int n) {
        if (n < 1 || n > 12) {
            return OUTSIDE;
        }
        for (int i = 0; i < n; i++) {
            deed();
            TreeSet<Integer> heard = s.heard.get(draw(size()));
            Integer item = draw(16);
            if (!heard.remove(item)) {
                heard.add(item);
            }
        }
        return trueCount();
    }

    int undo(int n) {
        if (n < 1 || n > 16) {
            return OUTSIDE;
        }
        if (n > past.size()) {
            return NOT;
        }
        for (int i = 0; i < n; i++) {
            s = past.removeLast();
        }
        return past.size();
    }

    // ---- the book, images

    int write(int v, int g) {
        if (!there(v)) {
            return UNKNOWN;
        }
        if (book.size() == 20) {
            return FULL;
        }
        book.add(new int[] {v, g});
        return book.size();
    }

    int tear() {
        int had = book.size();
        book.clear();
        return had;
    }

    int seed(int v) {
        if (v < 0) {
            return OUTSIDE;
        }
        int was = (int) seed;
        seed = v;
        return was;
    }

    int keep(int i) {
        if (i != 0 && i != 1) {
            return UNKNOWN;
        }
        images[i] = s.copy();
        imageSeeds[i] = seed;
        past.clear();
        return 1;
    }

    int goBack(int i) {
        if (i != 0 && i != 1) {
            return UNKNOWN;
        }
        if (images[i] == null) {
            return NOT;
        }
        s = images[i].copy();
        seed = imageSeeds[i];
        past.clear();
        return 1;
    }
}
