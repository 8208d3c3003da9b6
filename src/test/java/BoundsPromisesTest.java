/** Each sentence of promises 1 to 25 that names a boundary: a test of its own. */
public final class BoundsPromisesTest {
    private static final Rows ROWS = new Rows("bounds of the promises");

    public static void main(String[] args) {
        newObject();
        told();
        toldOfTelling();
        toldOfTheRest();
        at();
        isLost();
        mark();
        holds();
        guess();
        off();
        letter();
        sent();
        rows();
        node();
        take();
        link();
        lose();
        hear();
        salt();
        mode();
        drift();
        driftBehindLinks();
        undo();
        write();
        tear();
        seed();
        keep();
        goBack();
        ROWS.end();
    }

    private static void test(String words, String... rows) {
        ROWS.test(words, rows);
    }

    /** A row for each two of the nine nodes, the greater one first or last. */
    private static String eachTwo(String name, boolean greaterFirst, String due) {
        StringBuilder rows = new StringBuilder();
        for (int u = 0; u < 9; u++) {
            for (int v = 0; v < u; v++) {
                rows.append(name).append("(").append(greaterFirst ? u : v).append(", ").append(greaterFirst ? v : u);
                rows.append(")").append(due).append("\n");
            }
        }
        return rows.toString();
    }

    // ---- promise 1

    private static void newObject() {
        test("`TwiceHeard()`: The MIDDLE alone.", """
            told(0) = 1; told(1|2|3|4|5) = 0; told(6) = 1; told(7|8|9|10) = 0; told(11) = NONE; told(12|13) = 0
            at(0, 0) = 0; at(0, 1|2|3) = 0; at(0, 4) = 1; at(0, 5) = 0; at(1, 0) = UNKNOWN
            holds(0, 0|1|3) = 0; holds(0, 2) = 4098049024; guess(0, 1|2) = 0; off(1|2) = 100000
            letter(0, 0) = UNKNOWN; sent(0, 0) = UNKNOWN; isLost(0, 0|1) = UNKNOWN
            """);
        test("`TwiceHeard()`: The MIDDLE alone.", """
            take() = NOT; link(0, 0|1) = UNKNOWN; lose(0, 0|1) = UNKNOWN; undo(1) = NOT; goBack(0|1) = NOT; tear() = 0
            told(0) = 1
            """);
        for (int i = 0; i < 2; i++) {
            test("`TwiceHeard()`: The MIDDLE alone.", "told(0) = 1; told(10|12|13) = 0; goBack(0|1) = NOT", "\n", Nets.ALL_LINKED,
                "seed(9); write(0, 1); keep(0); keep(1); salt(4)");
        }
    }

    // ---- promise 2

    private static void told() {
        test("13 THE SEED. OUTSIDE.", "told(-1|14|15|LOW|HIGH) = OUTSIDE\n", Nets.ALL_LINKED, "told(-1|14|LOW|HIGH) = OUTSIDE");
        test("`int told(int what)`: 0 N", "told(0) = 1; 8 * node(0, 0); told(0) = 9; 8 * take(); told(0) = 1");
        test("1 LINKS", "told(1) = 0\n", Nets.ALL_LINKED, "told(1) = 36; take(); told(1) = 28\n");
        test("1 LINKS", "8 * node(0, 0); told(1) = 0\n", eachTwo("link", true, " = 1"), "told(1) = 36\n",
            eachTwo("link", false, " = 0"), "told(1) = 0");
        test("2 how many of them are LOST", "told(2) = 0\n", Nets.ALL_LINKED, "told(2) = 0\n", eachTwo("lose", true, " = 1"),
            "told(2) = 36; told(1) = 36\n", eachTwo("lose", false, " = 0"), "told(2) = 0; told(1) = 36");
        test("2 how many of them are LOST", Nets.ALL_LINKED, eachTwo("lose", true, ""), "take(); told(2) = 28; link(0, 1); told(2) = 27");
        test("3 SALT", "told(3) = 0; salt(65535); told(3) = 65535; salt(0); told(3) = 0");
        test("4 MODE", "told(4) = 0; mode(1); told(4) = 1; mode(0); told(4) = 0");
    }

    private static void toldOfTelling() {
        test("5 the greatest RING", "told(5) = 0; node(0, 0); told(5) = 0; link(0, 1); told(5) = 1");
        test("5 the greatest RING", Nets.CHAIN, "told(5) = 8; take(); told(5) = 7; link(0, 1); told(5) = 0");
        test("6 COMES", "told(6) = 1; node(0, 0); told(6) = 1");
        test("6 COMES", Nets.ALL_LINKED, "told(6) = 511\n", eachTwo("lose", true, ""), "told(6) = 1; lose(0, 8); told(6) = 257");
        test("7 TRUE", "told(7) = 0; hear(0, 65535); told(7) = 16; node(1, 65535); told(7) = 16; hear(0, 0); told(7) = 16");
        test("7 TRUE", "node(0, 65535); told(7) = 0; link(0, 1); told(7) = 16; lose(0, 1); told(7) = 16");
        test("8 LETTERS (by any KIND)", "told(8) = 0; node(0, 1); told(8) = 0; node(2, 1); told(8) = 0; link(0, 1); told(8) = 2");
        test("8 LETTERS (by any KIND)", Nets.MOST_LETTERS, "told(8) = 20; mode(1); told(8) = 8; mode(0); told(8) = 20");
        test("8 LETTERS (by any KIND)", Nets.ALL_LINKED, "told(8) = 8");
        test("9 how many of these do not come", Nets.MOST_LETTERS, "told(9) = 0\n",
            "lose(0, 1|2|3|4); told(9) = 4; lose(1|2|3|4, 5|6|7|8); told(9) = 20; told(8) = 20; mode(1); told(9) = 8; told(8) = 8");
        test("9 how many of these do not come", "node(1, 0); node(3, 0); lose(1, 2); told(2) = 1; told(9) = 0 # no letter goes there");
    }

    private static void toldOfTheRest() {
        test("10 entries of THE BOOK", "told(10) = 0; 20 * write(0, 7); told(10) = 20; write(0, 7) = FULL; told(10) = 20; tear(); told(10) = 0");
        test("11 WRONG", "told(11) = NONE; write(0, 0); told(11) = NONE; write(0, 1); told(11) = 1; hear(0, 1); told(11) = 0");
        test("11 WRONG", "19 * write(0, 0); write(0, -1); told(11) = 19");
        test("12 how many can be undone", "told(12) = 0; salt(0); told(12) = 1; 15 * salt(0); told(12) = 16; salt(0); told(12) = 16");
        test("12 how many can be undone", "12 * salt(0); drift(3); told(12) = 15; drift(12); told(12) = 16; undo(16); told(12) = 0");
        test("13 THE SEED", "told(13) = 0; seed(HIGH); told(13) = HIGH; seed(0); told(13) = 0");
    }

    // ---- promise 3

    private static void at() {
        test("what = 0 RING (NONE)", Nets.CHAIN, "at(0, 0) = 0; at(8, 0) = 8; link(7, 8); at(8, 0) = NONE; at(7, 0) = 7");
        test("1 NODES LINKED with it", "at(0, 1) = 0\n", Nets.ALL_LINKED, "at(0, 1) = 510; at(4, 1) = 495; at(8, 1) = 255; lose(0, 8); at(0, 1) = 510");
        test("2 its UPPER ones (SETS)", Nets.MOST_LETTERS, "at(0, 2) = 0; at(1|4, 2) = 1; at(5|8, 2) = 30; mode(1); at(5|8, 2) = 30");
        test("2 its UPPER ones (SETS)", "node(0, 0); node(2, 0); at(1|2, 2) = 0");
        test("3 the SET that it HEARS", "at(0, 3) = 0; hear(0, 65535); at(0, 3) = 65535; node(0, 65535); at(1, 3) = 65535; hear(1, 0); at(1, 3) = 0");
        test("4 WAYS", "at(0, 4) = 1; node(0, 0); at(1, 4) = 0; link(0, 1); at(1, 4) = 1; lose(0, 1); at(1, 4) = 0");
        test("4 WAYS", """
            3 * node(1, 0); 4 * node(14, 0); node(240, 0); at(8, 4) = 12; mode(1); at(8, 4) = 1 # 12: as many as can be
            """);
        test("5 LETTERS that come to it (0: it has no RING)", """
            at(0, 5) = 0; 8 * node(1, 0); at(0, 5) = 8; at(1, 5) = 0; lose(0, 8); at(0, 5) = 7; lose(0, 1|2|3|4|5|6|7); at(0, 5) = 0
            """);
        test("5 LETTERS that come to it (0: it has no RING)", "node(0, 1); node(2, 1); at(1|2, 5) = 0");
        test("5 LETTERS that come to it (0: it has no RING). UNKNOWN, OUTSIDE.", Nets.LATTICE, """
            at(-1|6|8|9|31|32|LOW|HIGH, 0) = UNKNOWN; at(6, 0|1|2|3|4|5) = UNKNOWN
            at(0, -1|6|LOW|HIGH) = OUTSIDE; at(5, -1|6|LOW|HIGH) = OUTSIDE; at(6, -1|6|LOW|HIGH) = UNKNOWN
            node(0, 0); at(6, 0) = NONE; at(6, -1|6) = OUTSIDE; at(7, 0) = UNKNOWN; take(); at(6, 0) = UNKNOWN
            """);
    }

    // ---- promise 4

    private static void isLost() {
        test("`int isLost(int u, int v)`: 1 the LINK of two NODES is LOST, 0 not.", Nets.ALL_LINKED, eachTwo("isLost", true, " = 0"),
            eachTwo("lose", true, ""), eachTwo("isLost", true, " = 1"), eachTwo("isLost", false, " = 1"));
        test("`int isLost(int u, int v)`: 1 the LINK of two NODES is LOST, 0 not. UNKNOWN.", Nets.LATTICE, """
            isLost(0, -1|6|9|31|32|33|LOW|HIGH) = UNKNOWN; isLost(-1|6|9|31|32|33|LOW|HIGH, 0) = UNKNOWN
            isLost(0, 0|3|4|5) = UNKNOWN; isLost(1, 1|2|5) = UNKNOWN; isLost(6, 6) = UNKNOWN
            isLost(0, 1|2) = 0; link(0, 1); isLost(0, 1) = UNKNOWN; isLost(1, 0) = UNKNOWN
            take(); isLost(3, 5) = UNKNOWN; isLost(5, 4) = UNKNOWN
            """);
    }

    // ---- promise 5

    private static void mark() {
        test("`int mark(int item, int what)`: MARK of an ITEM (what 0), RANK (1). OUTSIDE.", """
            mark(-1|16|LOW|HIGH, 0|1) = OUTSIDE; mark(0, -1|2|LOW|HIGH) = OUTSIDE; mark(15, -1|2|LOW|HIGH) = OUTSIDE
            mark(-1|16, -1|2) = OUTSIDE
            mark(0, 0) = 632; mark(0, 1) = 3; mark(15, 0) = 909; mark(15, 1) = 0
            """);
        test("`int mark(int item, int what)`: MARK of an ITEM (what 0), RANK (1).", """
            salt(65535); mark(0, 0) = 391; mark(0, 1) = 0; mark(8, 0) = 448; mark(8, 1) = 6; mark(15, 0) = 114; mark(15, 1) = 1
            salt(13130); mark(0|15, 0) = 0; mark(0|15, 1) = 7
            """);
    }

    // ---- promise 6

    private static void holds() {
        test("2: the least MARK, and 2000 times the next one, and 4000000 times the third; for one that there is not 1024.", """
            holds(0, 2) = 1024 + 2000 * 1024 + 4000000 * 1024
            hear(0, 16); holds(0, 2) = 92 + 2000 * 1024 + 4000000 * 1024
            hear(0, 18); holds(0, 2) = 92 + 2000 * 241 + 4000000 * 1024
            hear(0, 26); holds(0, 2) = 92 + 2000 * 241 + 4000000 * 483
            hear(0, 65535); salt(116); holds(0, 2) = 8002000; salt(2052); holds(0, 2) = 1019 + 2000 * 1020 + 4000000 * 1021
            salt(13130); holds(0, 2) = 2000 * 1024 + 4000000 * 1024
            """);
        test("`long holds(int v, int kind)`: What a NODE HOLDS by a KIND: 0, 1, 3 as told", """
            holds(0, 0|1|3) = 0; hear(0, 65535); holds(0, 0) = 16; holds(0, 1) = 15; holds(0, 3) = 65535
            salt(842); holds(0, 1) = 128
            """);
        test("`long holds(int v, int kind)`: What a NODE HOLDS by a KIND: 0, 1, 3 as told", Nets.MOST_LETTERS,
            "holds(0, 0) = 20; holds(1, 0) = 5; holds(8, 0) = 1; hear(0, 65535); holds(0, 0) = 36; holds(0, 3) = 65535");
        test("`long holds(int v, int kind)`: What a NODE HOLDS by a KIND: 0, 1, 3 as told", Nets.MOST_LETTERS, """
            # fewer letters than when last asked: none of those comes any more
            hear(8, 2); holds(0, 0) = 20; holds(2, 3) = 3; mode(1); holds(0, 0) = 8; holds(1, 0) = 5; holds(2, 0) = 1
            holds(2, 3) = 1; holds(4, 0) = 1; take(); holds(1, 0) = 4; holds(0, 0) = 7; link(0, 1); holds(1, 0) = 1
            at(1, 0) = 3; holds(2, 0) = 5; holds(0, 0) = 7 # node 1 tells node 5 now
            """);
        test("NONE: it has no RING. UNKNOWN, OUTSIDE.", """
            node(0, 65535); node(2, 1); holds(1|2, 0|1|2|3) = NONE; link(0, 2); holds(1, 0) = 16; holds(2, 0) = 17
            holds(-1|3|9|LOW|HIGH, 0|3) = UNKNOWN; holds(3, -1|4) = UNKNOWN
            holds(0|1, -1|4|LOW|HIGH) = OUTSIDE; link(0, 2); holds(1, -1|4) = OUTSIDE
            """);
    }

    // ---- promise 7

    private static void guess() {
        test("`int guess(int v, int by)`: GUESS by BITS (by 1), by LEAST (2) of what a NODE HOLDS", """
            guess(0, 1|2) = 0; hear(0, 2); guess(0, 1) = 2; guess(0, 2) = 1; hear(0, 0); node(1, 2); guess(0|1, 1) = 2
            guess(0|1, 2) = 1; lose(0, 1); guess(0, 1|2) = 0; guess(1, 1) = 2; guess(1, 2) = 1
            hear(1, 65535); salt(7); guess(1, 1) = 41; salt(116); guess(1, 2) = 682
            """);
        test("`int guess(int v, int by)`: GUESS by BITS (by 1), by LEAST (2) of what a NODE HOLDS; NONE: it has no RING. UNKNOWN, OUTSIDE.", """
            node(0, 65535); guess(1, 1|2) = NONE; guess(0|1, -1|0|3|LOW|HIGH) = OUTSIDE
            guess(-1|2|9|LOW|HIGH, 1|2) = UNKNOWN; guess(2, 0|3) = UNKNOWN
            """);
    }

    // ---- promise 8

    private static void off() {
        test("`int off(int by)`: OFF of the MIDDLE's GUESS by BITS (1), by LEAST (2), and 100000. OUTSIDE.", """
            off(-1|0|3|LOW|HIGH) = OUTSIDE
            off(1|2) = 100000; node(1, 65535); off(1) = 100004; off(2) = 99995
            lose(0, 1); off(1|2) = 99984; link(0, 1); off(1|2) = 100000
            hear(0, 1); off(1|2) = 100000; off(-1|0|3) = OUTSIDE
            """);
        test("`int off(int by)`: OFF of the MIDDLE's GUESS by BITS (1), by LEAST (2), and 100000.", """
            hear(0, 65535); salt(116); off(2) = 100666; salt(13130); off(1|2) = 99985; salt(7); off(1) = 100025
            """);
    }

    // ---- promises 9, 10

    private static void letter() {
        test("`int letter(int k, int what)`: Of a LETTER: what = 0 from which NODE, 1 to which, 2 1 it comes, 0 not.", Nets.MOST_LETTERS, """
            letter(0, 0) = 5; letter(0, 1) = 1; letter(0, 2) = 1; letter(19, 0) = 4; letter(19, 1) = 0; letter(19, 2) = 1
            lose(1, 5); lose(0, 4); letter(0, 2) = 0; letter(1, 2) = 1; letter(18, 2) = 1; letter(19, 2) = 0
            """);
        test("`int letter(int k, int what)`: Of a LETTER: what = 0 from which NODE, 1 to which, 2 1 it comes, 0 not. UNKNOWN, OUTSIDE.", """
            letter(0, 0|1|2|3) = UNKNOWN; node(0, 0); letter(0, 0) = UNKNOWN; link(0, 1); letter(0, 0) = 1
            letter(-1|1|LOW|HIGH, 0|2) = UNKNOWN; letter(1, -1|3) = UNKNOWN; letter(0, -1|3|LOW|HIGH) = OUTSIDE
            """);
        test("`int letter(int k, int what)`: Of a LETTER: what = 0 from which NODE, 1 to which, 2 1 it comes, 0 not. UNKNOWN, OUTSIDE.",
            Nets.MOST_LETTERS, "letter(20|21|36|37, 0) = UNKNOWN; letter(19, 3) = OUTSIDE; mode(1); letter(7, 0) = 4; letter(8, 0) = UNKNOWN");
    }

    private static void sent() {
        test("`long sent(int k, int kind)`: What is sent by a KIND in a LETTER, as holds().", Nets.MOST_LETTERS, """
            hear(8, 65535); sent(15, 0) = 16; sent(15, 1) = 15; sent(15, 2) = 736184035; sent(15, 3) = 65535
            hear(8, 0); sent(15, 0|1|3) = 0; sent(15, 2) = 4098049024
            sent(19, 0) = 4; sent(19, 3) = 1; lose(0, 4); sent(19, 0) = 4 # lost, it is sent all the same
            lose(4, 5|6|7); sent(19, 0) = 1
            """);
        test("`long sent(int k, int kind)`: What is sent by a KIND in a LETTER, as holds(). UNKNOWN, OUTSIDE.", """
            sent(0, 0|3|4) = UNKNOWN; node(0, 5); sent(0, 3) = UNKNOWN; link(0, 1); sent(0, 3) = 5
            sent(-1|1|LOW|HIGH, 0|3) = UNKNOWN; sent(1, -1|4) = UNKNOWN; sent(0, -1|4|LOW|HIGH) = OUTSIDE
            """);
        test("`long sent(int k, int kind)`: What is sent by a KIND in a LETTER, as holds(). UNKNOWN, OUTSIDE.", Nets.MOST_LETTERS,
            "sent(19, 0) = 5; sent(20|36, 0) = UNKNOWN; sent(19, 4) = OUTSIDE; mode(1); sent(7, 0) = 1; sent(8, 0) = UNKNOWN");
    }

    // ---- promise 11

    private static void rows() {
        test("`long rows(int n, int z)`: ON THE WHOLE, of n ITEMS: how many rows have Z z. OUTSIDE.", """
            rows(-1|0|9|LOW|HIGH, 0|8) = OUTSIDE; rows(1|8, -1|9|LOW|HIGH) = OUTSIDE; rows(0|9, -1|9) = OUTSIDE
            """);
        test("`long rows(int n, int z)`: ON THE WHOLE, of n ITEMS: how many rows have Z z.", """
            rows(1, 0) = 64; rows(1, 1) = 64; rows(1, 2) = 0; rows(1, 8) = 0
            rows(8, 0) = 281474976710656; rows(8, 3) = 26348284331163648; rows(8, 7) = 5369380208640; rows(8, 8) = 84557168640
            rows(7, 7) = 10569646080; rows(7, 8) = 0; rows(6, 6) = 720 * 2097152; rows(6, 7) = 0
            """);
        test("`long rows(int n, int z)`: ON THE WHOLE, of n ITEMS: how many rows have Z z.", """
            # whatever was asked ahead
            rows(8, 8) = 84557168640; rows(8, 0) = 281474976710656; rows(1, 1) = 64; rows(1, 0) = 64; rows(8, 7) = 5369380208640
            rows(8, 0) = 281474976710656; rows(9, 9) = OUTSIDE; rows(2, 2) = 4096; rows(3, 0) = 262144
            """);
        test("`long rows(int n, int z)`: ON THE WHOLE, of n ITEMS: how many rows have Z z.",
            Nets.ALL_LINKED, "salt(5); rows(1, 0) = 64; mode(1); rows(8, 8) = 84557168640; rows(1, 0) = 64 # whatever is so");
    }

    // ---- promise 12

    private static void node() {
        test("A NODE comes, LINKED with a SET of those that there are, that HEARS a SET: its number.", """
            node(0, 0) = 1; at(1, 1) = 0; at(1, 3) = 0; node(3, 65535) = 2; at(2, 1) = 3; at(2, 3) = 65535; at(0|1, 1) = 4
            5 * node(0, 0); node(255, 1) = 8; at(8, 1) = 255; at(0, 1) = 260; at(7, 1) = 256; isLost(8, 0|7) = 0
            """);
        test("A NODE comes, LINKED with a SET of those that there are, that HEARS a SET: its number.", """
            # a number that is used again brings nothing with it
            node(1, 65535) = 1; lose(0, 1); take(); node(0, 0) = 1; at(1, 1) = 0; at(1, 3) = 0; told(1) = 0; told(2) = 0
            take(); node(1, 0) = 1; isLost(0, 1) = 0; told(1) = 1; told(2) = 0
            """);
        test("UNKNOWN (bits of none)", """
            node(2|3|4|256|512|65536|-1|-2|LOW|HIGH, 0) = UNKNOWN
            node(1, 0) = 1; node(4|5|7|LOW|HIGH|-1, 0) = UNKNOWN; node(3, 0) = 2; node(8|15, 0) = UNKNOWN; told(0) = 3
            """);
        test("OUTSIDE (HEARS)", """
            node(0|1, -1|65536|LOW|HIGH) = OUTSIDE; node(1, 65535) = 1; node(1, 0) = 2; told(0) = 3
            """);
        test("FULL (9)", "7 * node(1, 1); told(0) = 8; node(1, 1) = 8; node(0|1|511, 0) = FULL; told(0) = 9; take() = 8; node(128, 2) = 8; node(0, 0) = FULL");
    }

    // ---- promise 13

    private static void take() {
        test("`int take()`: The latest NODE goes, with its LINKS: how many are left.", Nets.ALL_LINKED, "lose(8, 0|7)\n", """
            take() = 8; told(1) = 28; told(2) = 0; at(0, 1) = 254; at(7, 1) = 127; at(8, 0) = UNKNOWN; isLost(0, 8) = UNKNOWN
            take() = 7; take() = 6; take() = 5; take() = 4; take() = 3; take() = 2; told(1) = 1
            take() = 1; told(1) = 0; at(0, 1) = 0
            """);
        test("`int take()`: The latest NODE goes, with its LINKS: how many are left.",
            "node(1, 1); node(2, 2); link(0, 1); link(0, 2); at(1, 0) = 2; take() = 2; at(1, 0) = NONE; at(0, 1) = 0");
        test("NOT: the MIDDLE alone is there.", """
            hear(0, 5); take() = NOT; told(0) = 1; at(0, 3) = 5; told(12) = 1; node(1, 0); take() = 1; take() = NOT; told(12) = 3
            """);
    }

    // ---- promises 14, 15

    private static void link() {
        test("`int link(int u, int v)`: Two NODES are LINKED (not LOST), or, if they were, no more: 1, 0.", """
            8 * node(0, 0); link(0, 8) = 1; isLost(0, 8) = 0; at(0, 1) = 256; at(8, 1) = 1
            lose(8, 0) = 1; link(8, 0) = 0; at(0, 1) = 0; at(8, 1) = 0; told(2) = 0; link(8, 0) = 1; isLost(0, 8) = 0
            link(7, 8) = 1; link(8, 7) = 0; link(0, 8) = 0; told(1) = 0
            """);
        test("`int link(int u, int v)`: Two NODES are LINKED (not LOST), or, if they were, no more: 1, 0.", """
            # a loss goes with its link, whichever node is named first; other losses stay
            4 * node(1, 0); lose(0, 1|2|3|4); link(0, 2) = 0; link(3, 0) = 0; told(1) = 2; told(2) = 2
            link(0, 2) = 1; link(0, 3) = 1; told(1) = 4; told(2) = 2
            isLost(0, 2|3) = 0; isLost(2|3, 0) = 0; isLost(0, 1|4) = 1; isLost(1|4, 0) = 1
            link(1, 2) = 1; lose(1, 2); link(1, 4) = 1; link(1, 4) = 0; isLost(1, 0|2) = 1; isLost(0|2, 1) = 1; isLost(4, 0) = 1
            link(4, 1) = 1; link(4, 1) = 0; isLost(1, 0|2) = 1; isLost(0|2, 1) = 1; isLost(4, 0) = 1; isLost(0, 4) = 1
            """);
        test("or, if they were, no more: 1, 0. UNKNOWN (one twice).", Nets.LATTICE, """
            link(0, 0) = UNKNOWN; link(5, 5) = UNKNOWN; link(6, 6) = UNKNOWN
            link(0, -1|6|8|32|LOW|HIGH) = UNKNOWN; link(-1|6|8|32|LOW|HIGH, 0) = UNKNOWN; link(5, 6) = UNKNOWN
            link(5, 0) = 1; told(1) = 9
            """);
    }

    private static void lose() {
        test("`int lose(int u, int v)`: A LINK is LOST, or, if it was, no more: 1, 0.", """
            8 * node(1, 0); lose(0, 8) = 1; isLost(8, 0) = 1; told(2) = 1; lose(8, 0) = 0; isLost(0, 8) = 0; told(2) = 0
            lose(8, 0) = 1; isLost(0, 7) = 0
            """);
        test("`int lose(int u, int v)`: A LINK is LOST, or, if it was, no more: 1, 0. UNKNOWN.", Nets.LATTICE, """
            lose(0, 0) = UNKNOWN; lose(0, 3|4|5) = UNKNOWN; lose(3, 0) = UNKNOWN; lose(6, 6) = UNKNOWN
            lose(0, -1|6|8|32|33|LOW|HIGH) = UNKNOWN; lose(-1|6|8|32|33|LOW|HIGH, 0) = UNKNOWN
            link(0, 1) = 0; lose(0, 1) = UNKNOWN; lose(1, 0) = UNKNOWN; told(2) = 0
            """);
    }

    // ---- promises 16 to 18

    private static void hear() {
        test("`int hear(int v, int set)`: What a NODE HEARS: what it did. UNKNOWN, OUTSIDE.", """
            hear(0, 0) = 0; hear(0, 65535) = 0; hear(0, 65535) = 65535; hear(0, 0) = 65535; hear(0, 1) = 0
            hear(0, -1|65536|LOW|HIGH) = OUTSIDE; at(0, 3) = 1
            hear(-1|1|9|LOW|HIGH, 0) = UNKNOWN; hear(1, -1|65536) = UNKNOWN; hear(0, 2) = 1
            8 * node(0, 7); hear(8, 65535) = 7; hear(9, 0) = UNKNOWN; hear(8, 65536) = OUTSIDE; hear(8, 0) = 65535
            take(); hear(8, 0) = UNKNOWN
            """);
    }

    private static void salt() {
        test("`int salt(int v)`: SALT: what it was. OUTSIDE.", """
            salt(-1|65536|LOW|HIGH) = OUTSIDE; told(3) = 0; salt(0) = 0; salt(1) = 0; salt(65535) = 1; salt(65535) = 65535
            salt(-1|65536|LOW|HIGH) = OUTSIDE; salt(0) = 65535
            """);
    }

    private static void mode() {
        test("`int mode(int v)`: MODE: what it was. OUTSIDE.", """
            mode(-1|2|LOW|HIGH) = OUTSIDE; told(4) = 0; mode(0) = 0; mode(1) = 0; mode(1) = 1
            mode(-1|2|LOW|HIGH) = OUTSIDE; mode(0) = 1
            """);
    }

    // ---- promise 19

    private static void drift() {
        test("`int drift(int n)`: n times BY DRAWS (1 .. 12): TRUE. OUTSIDE.", """
            drift(-1|0|13|LOW|HIGH) = OUTSIDE; told(13) = 0; at(0, 3) = 0
            drift(1) = 1; told(12) = 1; told(13) = 1406932606; drift(-1|0|13|LOW|HIGH) = OUTSIDE
            undo(1) = 0; seed(0); keep(0); drift(12); told(12) = 12; drift(13) = OUTSIDE
            """);
        test("`int drift(int n)`: n times BY DRAWS (1 .. 12): TRUE.", """
            # what the MIDDLE alone hears is TRUE; what a node without a ring hears is not
            node(0, 0); drift(1) = 1; at(0, 3) = 4096; undo(1)
            seed(3); drift(1) = 0; at(1, 3) = 8; link(0, 1); told(7) = 1; seed(3); drift(1) = 0; at(1, 3) = 0
            """);
    }

    private static void driftBehindLinks() {
        test("`int drift(int n)`: n times BY DRAWS (1 .. 12): TRUE.", """
            # by the links as they are now, not as they were when last asked
            node(0, 65535); told(7) = 0; link(0, 1); drift(1) = 16; at(0, 3) = 4096
            link(0, 1); seed(0); drift(1) = 0; at(0, 3) = 0
            """);
    }

    // ---- promise 20

    private static void undo() {
        test("`int undo(int n)`: The n latest (1 .. 16) are undone: how many can be then.", """
            16 * salt(3); undo(1) = 15; undo(15) = 0; told(3) = 0; 17 * salt(4); undo(16) = 0; told(3) = 4
            """);
        test("`int undo(int n)`: The n latest (1 .. 16) are undone: how many can be then. OUTSIDE, NOT: not so many.", """
            undo(-1|0|17|LOW|HIGH) = OUTSIDE; undo(1|2|16) = NOT
            salt(1); undo(2|16) = NOT; undo(0|17) = OUTSIDE; undo(1) = 0; undo(1) = NOT
            15 * salt(2); undo(16) = NOT; salt(3); undo(17) = OUTSIDE; undo(16) = 0; undo(1|16) = NOT
            """);
        test("`int undo(int n)`: The n latest (1 .. 16) are undone: how many can be then.", """
            # beyond sixteen and back, and again beyond
            16 * salt(1); 4 * salt(2); undo(4) = 12; told(3) = 1; 3 * mode(1); told(12) = 15; 5 * mode(0); told(12) = 16
            undo(5) = 11; told(4) = 1; undo(3) = 8; told(4) = 0; undo(8) = 0; told(3) = 1; undo(1) = NOT
            """);
    }

    // ---- promises 21, 22

    private static void write() {
        test("An entry behind THE BOOK (GUESS g by BITS of a NODE, any): how many.", """
            write(0, 0) = 1; write(0, LOW) = 2; told(11) = 1; tear(); write(0, HIGH) = 1; told(11) = 0; tear()
            write(0, -1) = 1; told(11) = 0; tear(); write(0, 1) = 1; told(11) = 0
            """);
        test("An entry behind THE BOOK (GUESS g by BITS of a NODE, any): how many.",
            "8 * node(0, 0); write(8, 0) = 1; told(11) = 0; link(0, 8); told(11) = NONE");
        test("UNKNOWN, FULL (20).", """
            write(-1|1|9|LOW|HIGH, 0) = UNKNOWN; told(10) = 0; 19 * write(0, 0); write(1, 0) = UNKNOWN; told(10) = 19
            write(0, 0) = 20; write(0, 0) = FULL; write(0, 1) = FULL; write(1|-1, 0) = UNKNOWN; told(10) = 20; told(11) = NONE
            tear() = 20; write(0, 0) = 1
            """);
    }

    private static void tear() {
        test("`int tear()`: No BOOK: how much it had.", """
            tear() = 0; tear() = 0; write(0, 1); tear() = 1; tear() = 0; told(10) = 0; told(11) = NONE
            20 * write(0, 1); tear() = 20; tear() = 0; told(10) = 0; told(11) = NONE
            write(0, 0) = 1; told(11) = NONE; told(12) = 0
            """);
    }

    // ---- promise 23

    private static void seed() {
        test("`int seed(int v)`: THE SEED becomes v (0 .. 2147483647): what it was. OUTSIDE.", """
            seed(-1|-2|LOW) = OUTSIDE; told(13) = 0; seed(0) = 0; seed(2147483647) = 0; seed(-1|LOW) = OUTSIDE
            told(13) = 2147483647; seed(2147483646) = 2147483647; seed(0) = 2147483646; told(12) = 0
            """);
    }

    // ---- promises 24, 25

    private static void keep() {
        test("`int keep(int i)`: IMAGE i becomes what is so (nothing can be undone then): 1. UNKNOWN.", """
            salt(5); told(12) = 1; keep(-1|2|LOW|HIGH) = UNKNOWN; told(12) = 1; goBack(0|1) = NOT
            keep(1) = 1; told(12) = 0; undo(1) = NOT; goBack(0) = NOT
            salt(6); keep(0) = 1; told(12) = 0; salt(7); goBack(1) = 1; told(3) = 5; goBack(0) = 1; told(3) = 6
            keep(0|1) = 1; keep(2) = UNKNOWN
            """);
        test("`int keep(int i)`: IMAGE i becomes what is so (nothing can be undone then): 1.", """
            # kept anew it is the later one, and what comes then leaves it alone
            salt(5); seed(5); keep(0); salt(6); seed(6); keep(0); salt(7); seed(7); hear(0, 7); node(1, 7); goBack(0) = 1
            told(3) = 6; told(13) = 6; at(0, 3) = 0; told(0) = 1
            """);
    }

    private static void goBack() {
        test("`int goBack(int i)`: What is so becomes IMAGE i (nothing can be undone then): 1. UNKNOWN, NOT: it was not kept.", """
            goBack(-1|2|LOW|HIGH) = UNKNOWN; goBack(0|1) = NOT; salt(3); goBack(0|1) = NOT; told(3) = 3; told(12) = 1
            keep(0); goBack(1) = NOT; goBack(0) = 1; salt(4); salt(5); goBack(2) = UNKNOWN; goBack(1) = NOT; told(12) = 2
            goBack(0) = 1; told(12) = 0; undo(1) = NOT; told(3) = 3; goBack(0) = 1
            """);
        test("`int goBack(int i)`: What is so becomes IMAGE i (nothing can be undone then): 1.", "keep(0)\n", Nets.ALL_LINKED, """
            lose(0, 8); keep(1); 8 * take(); goBack(1) = 1; told(0) = 9; told(1) = 36; told(2) = 1; goBack(0) = 1; told(0) = 1
            told(1) = 0; told(2) = 0; node(0, 0); goBack(1) = 1; told(0) = 9; node(0, 0) = FULL
            """);
    }
}
