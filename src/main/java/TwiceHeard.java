import java.util.Arrays;

/** Sums that may be heard twice: nodes tell what they heard, ring by ring, to the node in the middle. */
public final class TwiceHeard {
    public static final int NONE = -1, UNKNOWN = -1000000001, OUTSIDE = -1000000002, NOT = -1000000003, FULL = -1000000004;

    private static final int MOST_NODES = 9;
    /** Each link carries one letter at most, so the pairs of nodes bound the letters. */
    private static final int MOST_LETTERS = 36;
    private static final int ITEMS = 16;
    private static final int ALL_ITEMS = 65535;
    private static final int MOST_SALT = 65535;
    private static final int MOST_RANK = 7;
    private static final int MOST_UNDONE = 16;
    private static final int MOST_ENTRIES = 20;
    private static final int MOST_DRIFT = 12;
    private static final int IMAGES = 2;
    private static final int MOST_ROW = 8;

    private static final int COUNT = 0, BITS = 1, LEAST = 2, ALL = 3;

    /** Keeps the answer of off() above the refusals and above NONE. */
    private static final int OFF_BASE = 100000;

    private final Net net;
    private final Past past;
    private final Telling telling;
    private final Book book;
    private final Draws draws;
    private final Image[] images;
    private final long[] rowCounts;

    public TwiceHeard() {
        net = new Net();
        past = new Past();
        telling = new Telling();
        book = new Book();
        draws = new Draws();
        images = new Image[IMAGES];
        for (int i = 0; i < IMAGES; i++) {
            images[i] = new Image();
        }
        rowCounts = new long[MOST_ROW + 1];
    }

    // ---- what is so

    public int told(int what) {
        telling.trace(net);
        switch (what) {
            case 0: return net.size;
            case 1: return pairsIn(net.linked);
            case 2: return pairsIn(net.lost);
            case 3: return net.salt;
            case 4: return net.mode;
            case 5: return telling.greatestRing;
            case 6: return telling.comers();
            case 7: return telling.trueCount(net);
            case 8: return telling.letters;
            case 9: return telling.letters - telling.allArrivals();
            case 10: return book.size;
            case 11: return firstWrong();
            case 12: return past.size;
            case 13: return draws.seed;
            default: return OUTSIDE;
        }
    }

    public int at(int v, int what) {
        if (!net.has(v)) {
            return UNKNOWN;
        }
        telling.trace(net);
        switch (what) {
            case 0: return telling.ring[v];
            case 1: return net.linked[v];
            case 2: return telling.uppers(net, v);
            case 3: return net.heard[v];
            case 4: return telling.ways[v];
            case 5: return telling.arrivals[v];
            default: return OUTSIDE;
        }
    }

    public int isLost(int u, int v) {
        if (!net.hasLink(u, v)) {
            return UNKNOWN;
        }
        return net.hasLost(u, v) ? 1 : 0;
    }

    public int mark(int item, int what) {
        if (!within(item, 0, ITEMS - 1) || !within(what, 0, 1)) {
            return OUTSIDE;
        }
        int itsMark = markOf(item, net.salt);
        return what == 0 ? itsMark : rankOf(itsMark);
    }

    public long holds(int v, int kind) {
        if (!net.has(v)) {
            return UNKNOWN;
        }
        if (!within(kind, COUNT, ALL)) {
            return OUTSIDE;
        }
        telling.trace(net);
        telling.gather(net, kind);
        return telling.held[v];
    }

    public int guess(int v, int by) {
        if (!net.has(v)) {
            return UNKNOWN;
        }
        if (!within(by, BITS, LEAST)) {
            return OUTSIDE;
        }
        telling.trace(net);
        telling.gather(net, by);
        return guessOf(v, by);
    }

    public int off(int by) {
        if (!within(by, BITS, LEAST)) {
            return OUTSIDE;
        }
        telling.trace(net);
        telling.gather(net, by);
        return guessOf(0, by) - telling.trueCount(net) + OFF_BASE;
    }

    public int letter(int k, int what) {
        telling.trace(net);
        if (!within(k, 0, telling.letters - 1)) {
            return UNKNOWN;
        }
        switch (what) {
            case 0: return telling.from[k];
            case 1: return telling.to[k];
            case 2: return telling.comes[k] ? 1 : 0;
            default: return OUTSIDE;
        }
    }

    public long sent(int k, int kind) {
        telling.trace(net);
        if (!within(k, 0, telling.letters - 1)) {
            return UNKNOWN;
        }
        if (!within(kind, COUNT, ALL)) {
            return OUTSIDE;
        }
        telling.gather(net, kind);
        return telling.held[telling.from[k]];
    }

    public long rows(int n, int z) {
        if (!within(n, 1, MOST_ROW) || !within(z, 0, MOST_RANK + 1)) {
            return OUTSIDE;
        }
        Arrays.fill(rowCounts, 0);
        rowCounts[0] = 1;
        for (int rank = 0; rank < z; rank++) {
            // Longest rows first: each is made of shorter ones that don't have this rank yet.
            for (int m = n; m >= 0; m--) {
                rowCounts[m] = rowsJoined(m, 1, waysOfRank(rank));
            }
        }
        return rowsJoined(n, 0, waysAboveRank(z));
    }

    // ---- deeds

    public int node(int linked, int hears) {
        if ((linked & ~net.everyone()) != 0) {
            return UNKNOWN;
        }
        if (!within(hears, 0, ALL_ITEMS)) {
            return OUTSIDE;
        }
        if (net.size >= MOST_NODES) {
            return FULL;
        }
        past.remember(net);
        net.add(linked, hears);
        return net.size - 1;
    }

    public int take() {
        if (net.size <= 1) {
            return NOT;
        }
        past.remember(net);
        net.dropLatest();
        return net.size;
    }

    public int link(int u, int v) {
        if (!net.has(u) || !net.has(v) || u == v) {
            return UNKNOWN;
        }
        past.remember(net);
        net.turnLink(u, v);
        return net.hasLink(u, v) ? 1 : 0;
    }

    public int lose(int u, int v) {
        if (!net.hasLink(u, v)) {
            return UNKNOWN;
        }
        past.remember(net);
        net.turnLost(u, v);
        return net.hasLost(u, v) ? 1 : 0;
    }

    public int hear(int v, int set) {
        if (!net.has(v)) {
            return UNKNOWN;
        }
        if (!within(set, 0, ALL_ITEMS)) {
            return OUTSIDE;
        }
        past.remember(net);
        int before = net.heard[v];
        net.heard[v] = set;
        return before;
    }

    public int salt(int v) {
        if (!within(v, 0, MOST_SALT)) {
            return OUTSIDE;
        }
        past.remember(net);
        int before = net.salt;
        net.salt = v;
        return before;
    }

    public int mode(int v) {
        if (!within(v, 0, 1)) {
            return OUTSIDE;
        }
        past.remember(net);
        int before = net.mode;
        net.mode = v;
        return before;
    }

    public int drift(int n) {
        if (!within(n, 1, MOST_DRIFT)) {
            return OUTSIDE;
        }
        for (int i = 0; i < n; i++) {
            past.remember(net);
            int v = draws.next(net.size);
            int item = draws.next(ITEMS);
            net.turnItem(v, item);
        }
        telling.trace(net);
        return telling.trueCount(net);
    }

    public int undo(int n) {
        if (!within(n, 1, MOST_UNDONE)) {
            return OUTSIDE;
        }
        if (n > past.size) {
            return NOT;
        }
        past.restore(net, n);
        return past.size;
    }

    // ---- the book

    public int write(int v, int g) {
        if (!net.has(v)) {
            return UNKNOWN;
        }
        if (book.size >= MOST_ENTRIES) {
            return FULL;
        }
        book.enter(v, g);
        return book.size;
    }

    public int tear() {
        int before = book.size;
        book.size = 0;
        return before;
    }

    // ---- images

    public int seed(int v) {
        if (v < 0) {
            return OUTSIDE;
        }
        int before = draws.seed;
        draws.seed = v;
        return before;
    }

    public int keep(int i) {
        if (!within(i, 0, IMAGES - 1)) {
            return UNKNOWN;
        }
        images[i].kept = true;
        images[i].seed = draws.seed;
        images[i].net.become(net);
        past.forget();
        return 1;
    }

    public int goBack(int i) {
        if (!within(i, 0, IMAGES - 1)) {
            return UNKNOWN;
        }
        if (!images[i].kept) {
            return NOT;
        }
        draws.seed = images[i].seed;
        net.become(images[i].net);
        past.forget();
        return 1;
    }

    // ---- what the answers are made of

    private static boolean within(int number, int least, int most) {
        return number >= least && number <= most;
    }

    private static boolean isIn(int set, int k) {
        return (set >> k & 1) == 1;
    }

    /** A pair stands in the sets of both its nodes, so each is met twice. */
    private static int pairsIn(int[] sets) {
        int met = 0;
        for (int set : sets) {
            met += Integer.bitCount(set);
        }
        return met / 2;
    }

    /** The product may go beyond int; only its low 16 bits matter, and a long holds it whole. */
    private static int markOf(int item, int salt) {
        long product = (item + 1L) * (2L * salt + 1L) * 40503L;
        return (int) (product % 65536L / 64L);
    }

    private static int rankOf(int mark) {
        int rank = 0;
        for (int rest = mark; rank < MOST_RANK && rest % 2 == 0; rest /= 2) {
            rank++;
        }
        return rank;
    }

    /** The held summaries by this kind must have been gathered. */
    private int guessOf(int v, int by) {
        if (telling.ring[v] == NONE) {
            return NONE;
        }
        return by == BITS ? Summary.guessByBits(telling.held[v]) : Summary.guessByLeast(telling.held[v]);
    }

    private int firstWrong() {
        telling.gather(net, BITS);
        for (int e = 0; e < book.size; e++) {
            int v = book.nodes[e];
            // A node without a ring is wrong even if the entry says NONE.
            if (!net.has(v) || telling.ring[v] == NONE || guessOf(v, BITS) != book.guesses[e]) {
                return e;
            }
        }
        return NONE;
    }

    private static long waysOfRank(int rank) {
        return rank < MOST_RANK ? 1L << (6 - rank) : 1L;
    }

    /** The ranks above one have as many ways in all as it has itself, but for the last. */
    private static long waysAboveRank(int rank) {
        return rank < MOST_RANK ? 1L << (6 - rank) : 0L;
    }

    /** Rows of m items, of which at least so many, wherever they stand, have one of the ways each, the others as counted. */
    private long rowsJoined(int m, int fewest, long ways) {
        long all = 0;
        long chosen = 1;
        long power = 1;
        for (int k = 0; k <= m; k++) {
            if (k >= fewest) {
                all += chosen * power * rowCounts[m - k];
            }
            chosen = chosen * (m - k) / (k + 1);
            power *= ways;
        }
        return all;
    }

    /** All of section 1 in one place, so that an image or a state to go back to is one copy of it. */
    private static final class Net {
        int size;
        int salt;
        int mode;
        final int[] linked;
        final int[] lost;
        final int[] heard;

        Net() {
            size = 1;
            linked = new int[MOST_NODES];
            lost = new int[MOST_NODES];
            heard = new int[MOST_NODES];
        }

        void become(Net other) {
            size = other.size;
            salt = other.salt;
            mode = other.mode;
            System.arraycopy(other.linked, 0, linked, 0, MOST_NODES);
            System.arraycopy(other.lost, 0, lost, 0, MOST_NODES);
            System.arraycopy(other.heard, 0, heard, 0, MOST_NODES);
        }

        boolean has(int v) {
            return v >= 0 && v < size;
        }

        boolean hasLink(int u, int v) {
            return has(u) && has(v) && isIn(linked[u], v);
        }

        boolean hasLost(int u, int v) {
            return has(u) && has(v) && isIn(lost[u], v);
        }

        int everyone() {
            return (1 << size) - 1;
        }

        void add(int neighbours, int hears) {
            int v = size;
            if (v >= MOST_NODES) {
                return;
            }
            linked[v] = neighbours;
            lost[v] = 0;
            heard[v] = hears;
            for (int u = 0; u < v; u++) {
                if (isIn(neighbours, u)) {
                    linked[u] |= 1 << v;
                }
            }
            size++;
        }

        void dropLatest() {
            if (size <= 1) {
                return;
            }
            size--;
            linked[size] = 0;
            lost[size] = 0;
            heard[size] = 0;
            int left = everyone();
            for (int u = 0; u < size; u++) {
                linked[u] &= left;
                lost[u] &= left;
            }
        }

        /** A link that goes takes its loss along: if it comes again, it is not lost. */
        void turnLink(int u, int v) {
            linked[u] ^= 1 << v;
            linked[v] ^= 1 << u;
            lost[u] &= linked[u];
            lost[v] &= linked[v];
        }

        void turnLost(int u, int v) {
            lost[u] ^= 1 << v;
            lost[v] ^= 1 << u;
        }

        void turnItem(int v, int item) {
            heard[v] ^= 1 << item;
        }
    }

    /** The states ahead of the latest deeds; beyond 16 the oldest gives its place to the newest. */
    private static final class Past {
        final Net[] states;
        int size;
        int next;

        Past() {
            states = new Net[MOST_UNDONE];
            for (int i = 0; i < MOST_UNDONE; i++) {
                states[i] = new Net();
            }
        }

        void remember(Net net) {
            states[next].become(net);
            next = (next + 1) % MOST_UNDONE;
            size = Math.min(size + 1, MOST_UNDONE);
        }

        void restore(Net net, int deeds) {
            if (deeds < 1 || deeds > size) {
                return;
            }
            next = (next + MOST_UNDONE - deeds) % MOST_UNDONE;
            size -= deeds;
            net.become(states[next]);
        }

        void forget() {
            size = 0;
        }
    }

    private static final class Image {
        boolean kept;
        int seed;
        final Net net;

        Image() {
            net = new Net();
        }
    }

    private static final class Draws {
        int seed;

        int next(int n) {
            seed = (int) ((seed * 1103515245L + 12345L) % 2147483648L);
            return n < 1 ? 0 : seed / 65536 % n;
        }
    }

    private static final class Book {
        final int[] nodes;
        final int[] guesses;
        int size;

        Book() {
            nodes = new int[MOST_ENTRIES];
            guesses = new int[MOST_ENTRIES];
        }

        void enter(int v, int g) {
            if (size >= MOST_ENTRIES) {
                return;
            }
            nodes[size] = v;
            guesses[size] = g;
            size++;
        }
    }

    /** A summary is one long, whatever its kind, in the form in which holds() answers it. */
    private static final class Summary {
        private static final long NEXT = 2000;
        private static final long THIRD = 4000000;
        /** Stands for a mark that there is not: above all marks, it goes in behind them. */
        private static final long NO_MARK = 1024;
        private static final long NO_MARKS = NO_MARK + NEXT * NO_MARK + THIRD * NO_MARK;

        static long ofItems(int set, int kind, int salt) {
            if (kind == COUNT) {
                return Integer.bitCount(set);
            }
            if (kind == ALL) {
                return set;
            }
            long made = kind == LEAST ? NO_MARKS : 0;
            for (int item = 0; item < ITEMS; item++) {
                if (isIn(set, item)) {
                    int itsMark = markOf(item, salt);
                    made = kind == LEAST ? withMark(made, itsMark) : made | 1L << rankOf(itsMark);
                }
            }
            return made;
        }

        static long together(long one, long other, int kind) {
            if (kind == COUNT) {
                return one + other;
            }
            if (kind != LEAST) {
                return one | other;
            }
            return withMark(withMark(withMark(one, first(other)), second(other)), third(other));
        }

        /** NO_MARK may be put in like any mark: it changes nothing. */
        static long withMark(long least, long mark) {
            long a = first(least);
            long b = second(least);
            long c = third(least);
            if (mark == a || mark == b || mark >= c) {
                return least;
            }
            if (mark < a) {
                return mark + NEXT * a + THIRD * b;
            }
            return mark < b ? a + NEXT * mark + THIRD * b : a + NEXT * b + THIRD * mark;
        }

        static long first(long least) {
            return least % NEXT;
        }

        static long second(long least) {
            return least / NEXT % NEXT;
        }

        static long third(long least) {
            return least / THIRD;
        }

        static int guessByBits(long bits) {
            if (bits == 0) {
                return 0;
            }
            int z = 0;
            while (z <= MOST_RANK && (bits >> z & 1) == 1) {
                z++;
            }
            return (1 << z) * 1000 / 773;
        }

        static int guessByLeast(long least) {
            if (first(least) == NO_MARK) {
                return 0;
            }
            if (second(least) == NO_MARK) {
                return 1;
            }
            long greatest = third(least);
            if (greatest == NO_MARK) {
                return 2;
            }
            return greatest < 0 ? 0 : (int) (2 * 1024 / (greatest + 1));
        }
    }

    /** How a net tells: rings, letters, ways; and, by one kind at a time, what each node holds. */
    private static final class Telling {
        final int[] ring;
        final int[] ringSets;
        int greatestRing;
        final int[] from;
        final int[] to;
        final boolean[] comes;
        int letters;
        final int[] ways;
        final int[] arrivals;
        final long[] held;

        Telling() {
            ring = new int[MOST_NODES];
            ringSets = new int[MOST_NODES];
            from = new int[MOST_LETTERS];
            to = new int[MOST_LETTERS];
            comes = new boolean[MOST_LETTERS];
            ways = new int[MOST_NODES];
            arrivals = new int[MOST_NODES];
            held = new long[MOST_NODES];
        }

        void trace(Net net) {
            layRings(net);
            writeLetters(net);
            countWays();
        }

        private void layRings(Net net) {
            Arrays.fill(ring, NONE);
            greatestRing = 0;
            int reached = 1;
            int front = 1;
            for (int r = 0; r < MOST_NODES; r++) {
                ringSets[r] = front;
                if (front != 0) {
                    greatestRing = r;
                }
                front = settle(net, front, r) & ~reached;
                reached |= front;
            }
        }

        /** Gives the nodes of a set their ring: all that are linked with one of them. */
        private int settle(Net net, int set, int r) {
            int around = 0;
            for (int v = 0; v < net.size; v++) {
                if (isIn(set, v)) {
                    ring[v] = r;
                    around |= net.linked[v];
                }
            }
            return around;
        }

        int uppers(Net net, int v) {
            return ring[v] < 1 ? 0 : net.linked[v] & ringSets[ring[v] - 1];
        }

        private void writeLetters(Net net) {
            letters = 0;
            for (int r = greatestRing; r >= 1; r--) {
                for (int v = 0; v < net.size; v++) {
                    if (ring[v] == r) {
                        writeFrom(net, v);
                    }
                }
            }
        }

        private void writeFrom(Net net, int v) {
            int targets = uppers(net, v);
            if (net.mode == 1) {
                targets &= -targets;
            }
            for (int u = 0; u < net.size && letters < MOST_LETTERS; u++) {
                if (isIn(targets, u)) {
                    from[letters] = v;
                    to[letters] = u;
                    comes[letters] = !isIn(net.lost[v], u);
                    letters++;
                }
            }
        }

        /** From the last letter back: what a node's receivers have is counted ahead of its own. */
        private void countWays() {
            Arrays.fill(ways, 0);
            Arrays.fill(arrivals, 0);
            ways[0] = 1;
            for (int k = letters - 1; k >= 0; k--) {
                if (comes[k]) {
                    ways[from[k]] += ways[to[k]];
                    arrivals[to[k]]++;
                }
            }
        }

        /** In the letters' order a node has got all that comes to it before it sends. */
        void gather(Net net, int kind) {
            for (int v = 0; v < net.size; v++) {
                held[v] = ring[v] == NONE ? NONE : Summary.ofItems(net.heard[v], kind, net.salt);
            }
            for (int k = 0; k < letters; k++) {
                if (comes[k]) {
                    held[to[k]] = Summary.together(held[to[k]], held[from[k]], kind);
                }
            }
        }

        int comers() {
            int set = 0;
            for (int v = 0; v < MOST_NODES; v++) {
                if (ways[v] >= 1) {
                    set |= 1 << v;
                }
            }
            return set;
        }

        int allArrivals() {
            int sum = 0;
            for (int count : arrivals) {
                sum += count;
            }
            return sum;
        }

        int trueCount(Net net) {
            int items = 0;
            for (int v = 0; v < net.size; v++) {
                if (ring[v] != NONE) {
                    items |= net.heard[v];
                }
            }
            return Integer.bitCount(items);
        }
    }
}
