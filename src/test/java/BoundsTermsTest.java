import java.math.BigInteger;

/** Each sentence of "What it is" and of "Terms" that names a boundary: a test of its own. */
public final class BoundsTermsTest {
    private static final Rows ROWS = new Rows("bounds of the terms");
    private static final Due DUE = new Due("marks by every salt");

    public static void main(String[] args) {
        calls();
        wholeNumbers();
        refusals();
        order();
        nodes();
        items();
        salts();
        marks();
        everyMark();
        ranks();
        rings();
        uppers();
        modes();
        counts();
        bits();
        least();
        together();
        telling();
        guessesByBits();
        guessesByLeast();
        truth();
        ways();
        onTheWhole();
        book();
        draws();
        undone();
        images();
        DUE.end();
        ROWS.end();
    }

    private static void test(String words, String... rows) {
        ROWS.test(words, rows);
    }

    // ---- what it is

    /** Each call as the 512th: it is the last that must be answered as told. */
    private static void calls() {
        String[] runs = {
            "511 * salt(7); told(12) = 16",
            "node(1, 5); 510 * hear(1, 6); at(1, 3) = 6",
            "node(1, 0); told(0); 509 * lose(0, 1); isLost(0, 1) = 1",
            "511 * salt(0); mark(0, 0) = 632",
            "node(1, 65535); 510 * told(7); holds(0, 0) = 16",
            "node(1, 65535); 510 * guess(0, 2); guess(0, 1) = 20",
            "node(1, 65535); 510 * off(2); off(1) = 100004",
            "node(1, 0); 510 * mode(1); letter(0, 0) = 1",
            "node(1, 65535); 510 * sent(0, 0); sent(0, 3) = 65535",
            "511 * rows(8, 8); rows(8, 8) = 84557168640",
            "node(1, 0); take(); ".repeat(255) + "told(0); node(1, 3) = 1",
            "511 * node(0, 0); take() = 8",
            "node(0, 0); 510 * link(0, 1); link(0, 1) = 1",
            "node(1, 0); 510 * lose(0, 1); lose(0, 1) = 1",
            "511 * hear(0, 9); hear(0, 1) = 9",
            "511 * salt(65535); salt(0) = 65535",
            "511 * mode(1); mode(0) = 1",
            "511 * drift(12); drift(12) = " + heardAlone(512 * 12),
            "511 * salt(3); undo(16) = 0",
            "511 * told(10); write(0, 0) = 1",
            "511 * write(0, 0); tear() = 20",
            "511 * seed(HIGH); seed(0) = HIGH",
            "511 * keep(1); keep(0) = 1",
            "keep(1); 510 * goBack(1); goBack(1) = 1"};
        for (String run : runs) {
            test("An object is used for at most 512 calls after it has been made", run);
        }
    }

    /** How many items the MIDDLE alone hears after so many times BY DRAWS from seed 0. */
    private static int heardAlone(int times) {
        BigInteger seed = BigInteger.ZERO;
        int heard = 0;
        for (int i = 0; i < times; i++) {
            seed = drawn(drawn(seed));
            heard ^= 1 << seed.intValue() / 65536 % 16;
        }
        return Integer.bitCount(heard);
    }

    private static BigInteger drawn(BigInteger seed) {
        return seed.multiply(BigInteger.valueOf(1103515245)).add(BigInteger.valueOf(12345)).mod(BigInteger.ONE.shiftLeft(31));
    }

    // ---- terms

    private static void wholeNumbers() {
        test("All numbers are whole; / cuts.", """
            mark(0, 0) = 632            # 40503 / 64 is 632 and 55 of 64
            hear(0, 2); guess(0, 1) = 2 # 2000 / 773 is 2 and 454 of 773
            hear(0, 22); guess(0, 2) = 2 # 2048 / 875 is 2 and 298 of 875
            """);
        test("What has a number has it from 0 on.", Nets.LATTICE, """
            at(0, 0) = 0; at(-1, 0) = UNKNOWN
            letter(0, 0) = 5; letter(-1, 0) = UNKNOWN
            sent(0, 3) = 16; sent(-1, 3) = UNKNOWN
            mark(0, 0) = 632; mark(-1, 0) = OUTSIDE
            write(0, 5); told(11) = 0
            keep(0) = 1; keep(-1) = UNKNOWN
            goBack(0) = 1; goBack(-1) = UNKNOWN
            """);
        test("A SET is a whole number, bit k for k.", """
            hear(0, 1); holds(0, 2) = 632 + 2000 * 1024 + 4000000 * 1024     # item 0
            hear(0, 32768); holds(0, 2) = 909 + 2000 * 1024 + 4000000 * 1024 # item 15
            7 * node(0, 0); node(1, 0) = 8
            at(0, 1) = 256; at(8, 1) = 1; at(8, 2) = 1; told(6) = 257
            """);
    }

    private static void refusals() {
        test("UNKNOWN (a NODE, LETTER, IMAGE that there is not;", Nets.LATTICE, """
            at(-1|6|9|LOW|HIGH, 0) = UNKNOWN
            letter(-1|8|36|LOW|HIGH, 0) = UNKNOWN
            keep(-1|2|LOW|HIGH) = UNKNOWN
            """);
        test("NODES that are not LINKED, one twice, where these are asked", Nets.LATTICE, """
            isLost(0, 3) = UNKNOWN; isLost(3, 0) = UNKNOWN; isLost(1, 2) = UNKNOWN
            lose(0, 3) = UNKNOWN; lose(3, 0) = UNKNOWN; lose(1, 2) = UNKNOWN
            isLost(0, 0) = UNKNOWN; isLost(5, 5) = UNKNOWN
            lose(0, 0) = UNKNOWN; lose(5, 5) = UNKNOWN
            link(0, 0) = UNKNOWN; link(5, 5) = UNKNOWN
            """);
        test("OUTSIDE (another number out of its bounds)", """
            told(-1|14) = OUTSIDE; mark(-1|16, 0) = OUTSIDE; rows(0|9, 0) = OUTSIDE; salt(-1|65536) = OUTSIDE
            """);
        test("NOT (not now, as told)", "take() = NOT; undo(1) = NOT; goBack(0) = NOT; goBack(1) = NOT");
        test("They are far below all that is counted: -1000000001 and on.", """
            7 * node(0, 0); told(11) = -1; at(7, 0) = -1
            told(14) = -1000000002; at(8, 0) = -1000000001; undo(8) = -1000000003
            node(0, 0) = 8; node(0, 0) = -1000000004
            """);
        test("What is refused changes nothing.", Nets.LATTICE, """
            keep(0); seed(5); write(0, 1); drift(2)
            node(64, 0) = UNKNOWN; node(1, 65536) = OUTSIDE; undo(3) = NOT; goBack(1) = NOT; write(6, 1) = UNKNOWN
            undo(2) = 0; told(10) = 1
            """, "told(13) = " + drawn(drawn(drawn(drawn(BigInteger.valueOf(5))))) + "; goBack(0) = 1; told(13) = 0");
    }

    /** Each two refusals that one call can meet at once, and all three of node(). */
    private static void order() {
        String[] runs = {
            Nets.LATTICE + "at(6, 6) = UNKNOWN; at(-1, -1) = UNKNOWN; at(0, 6) = OUTSIDE",
            Nets.LATTICE + "holds(6, 4) = UNKNOWN; holds(-1, -1) = UNKNOWN; holds(0, 4) = OUTSIDE",
            Nets.LATTICE + "guess(6, 3) = UNKNOWN; guess(-1, 0) = UNKNOWN; guess(0, 3) = OUTSIDE",
            Nets.LATTICE + "letter(8, 3) = UNKNOWN; letter(-1, -1) = UNKNOWN; letter(0, 3) = OUTSIDE",
            Nets.LATTICE + "sent(8, 4) = UNKNOWN; sent(-1, -1) = UNKNOWN; sent(0, 4) = OUTSIDE",
            Nets.LATTICE + "hear(6, 65536) = UNKNOWN; hear(-1, -1) = UNKNOWN; hear(0, 65536) = OUTSIDE",
            Nets.LATTICE + "node(64, 65536) = UNKNOWN; node(-1, -1) = UNKNOWN; node(1, 65536) = OUTSIDE",
            Nets.MOST_LETTERS + "node(512, 65536) = UNKNOWN; node(511, 65536) = OUTSIDE; node(511, 65535) = FULL",
            Nets.MOST_LETTERS + "node(512, 0) = UNKNOWN; node(-1, 0) = UNKNOWN; node(0, -1) = OUTSIDE; node(0, 0) = FULL",
            Nets.LATTICE + "20 * write(0, 20); write(6, 20) = UNKNOWN; write(-1, 20) = UNKNOWN; write(0, 20) = FULL",
            "undo(0) = OUTSIDE; undo(17) = OUTSIDE; undo(16) = NOT; undo(1) = NOT",
            "goBack(2) = UNKNOWN; goBack(-1) = UNKNOWN; goBack(0) = NOT; goBack(1) = NOT"};
        for (String run : runs) {
            test("REFUSALS, of several the first in this order", run);
        }
    }

    // ---- section 1

    private static void nodes() {
        test("NODES 0 to N less 1 (N 1 .. 9; 1 at first)", """
            told(0) = 1; at(0, 0) = 0; at(1, 0) = UNKNOWN
            node(1, 0) = 1; at(1, 0) = 1; at(2, 0) = UNKNOWN
            6 * node(1, 0); told(0) = 8; at(7, 0) = 1; at(8, 0) = UNKNOWN
            node(1, 0) = 8; told(0) = 9; at(8, 0) = 1; at(9, 0) = UNKNOWN
            node(1, 0) = FULL; told(0) = 9; at(9, 0) = UNKNOWN
            take() = 8; node(1, 0) = 8; node(1, 0) = FULL
            8 * take(); told(0) = 1; take() = NOT; told(0) = 1; at(0, 0) = 0
            """);
        test("NODE 0 is the MIDDLE.", Nets.LATTICE, "at(0, 0) = 0; at(0, 4) = 1; 5 * take(); take() = NOT; at(0, 0) = 0");
        test("Two NODES may be LINKED, a LINK LOST or not.", """
            node(0, 0); told(1) = 0; lose(0, 1) = UNKNOWN; told(2) = 0
            link(0, 1) = 1; told(1) = 1; told(2) = 0; isLost(0, 1) = 0
            lose(0, 1) = 1; told(1) = 1; told(2) = 1; isLost(0, 1) = 1
            lose(0, 1) = 0; told(1) = 1; told(2) = 0; isLost(0, 1) = 0
            link(0, 1) = 0; told(1) = 0; told(2) = 0; isLost(0, 1) = UNKNOWN
            """);
    }

    private static void items() {
        test("ITEMS are 0 .. 15.", """
            mark(-1, 0|1) = OUTSIDE; mark(0, 0) = 632; mark(15, 0) = 909; mark(16, 0|1) = OUTSIDE
            hear(0, 32768) = 0; hear(0, 65535) = 32768; hear(0, 65536) = OUTSIDE; hear(0, -1) = OUTSIDE; at(0, 3) = 65535
            """);
        test("A NODE HEARS a SET of ITEMS (none at first).", """
            at(0, 3) = 0; hear(0, 7) = 0; at(0, 3) = 7
            node(1, 7); take(); node(1, 0); at(1, 3) = 0; hear(1, 1) = 0
            """);
    }

    private static void salts() {
        test("SALT is 0 .. 65535 (0 at first).", """
            told(3) = 0; salt(-1|LOW) = OUTSIDE; salt(0) = 0
            salt(65535) = 0; salt(65536|HIGH) = OUTSIDE; told(3) = 65535; salt(65534) = 65535; told(3) = 65534
            """);
    }

    private static void marks() {
        test("left over by 65536, / 64 (so 0 .. 1023)", """
            mark(0, 0) = 632                  # 40503 is below 65536
            mark(1, 0) = 241                  # 81006 is above: 15470
            salt(32767); mark(0, 0) = 391     # 2 SALT and 1 is 65535, the last below 65536
            salt(32768); mark(0, 0) = 632     # is 65537: as 1, so as by SALT 0
            mark(15, 0) = 909; told(3) = 32768
            salt(65535); mark(0, 0) = 391; mark(15, 0) = 114 # beyond what an int holds
            salt(13130); mark(0|1|14|15, 0) = 0
            salt(361); mark(5, 0) = 1023
            """);
    }

    /** Each mark by adding the step again, and its rank by halving: no product that could go over an end. */
    private static void everyMark() {
        TwiceHeard x = new TwiceHeard();
        int calls = 0;
        int step = 40503;
        for (int salt = 0; salt < 65536; salt++) {
            if (calls + 33 > 512) {
                x = new TwiceHeard();
                calls = 0;
            }
            calls += 33;
            x.salt(salt);
            int sum = 0;
            for (int item = 0; item < 16; item++) {
                sum = (sum + step) % 65536;
                DUE.is("mark(" + item + ", 0) by salt " + salt, x.mark(item, 0), sum / 64);
                DUE.is("mark(" + item + ", 1) by salt " + salt, x.mark(item, 1), halvings(sum / 64));
            }
            step = (step + 40503 + 40503) % 65536;
        }
    }

    private static int halvings(int mark) {
        int n = 0;
        while (n < 7 && mark % 2 == 0) {
            mark /= 2;
            n++;
        }
        return n;
    }

    private static void ranks() {
        test("RANK: how often its MARK can be halved without a rest, 7 at most (MARK 0: 7).", """
            mark(1, 0) = 241; mark(1, 1) = 0
            salt(116); mark(4, 0) = 1; mark(4, 1) = 0; mark(8, 0) = 2; mark(8, 1) = 1; mark(0, 0) = 0; mark(0, 1) = 7
            salt(74); mark(11, 0) = 32; mark(11, 1) = 5
            salt(155); mark(9, 0) = 64; mark(9, 1) = 6
            salt(195); mark(7, 0) = 192; mark(7, 1) = 6
            salt(45); mark(12, 0) = 128; mark(12, 1) = 7
            salt(119); mark(5, 0) = 256; mark(5, 1) = 7; mark(11, 0) = 512; mark(11, 1) = 7
            salt(361); mark(5, 0) = 1023; mark(5, 1) = 0
            """);
    }

    private static void rings() {
        test("RING of a NODE: the fewest LINKS (LOST ones, too) from it to the MIDDLE", Nets.CHAIN, """
            at(0, 0) = 0; at(1, 0) = 1; at(2, 0) = 2; at(7, 0) = 7; at(8, 0) = 8; told(5) = 8
            lose(0, 1); lose(7, 8); at(1, 0) = 1; at(8, 0) = 8; told(5) = 8
            link(8, 0) = 1; at(8, 0) = 1; at(4, 0) = 4; at(5, 0) = 4; at(7, 0) = 2; told(5) = 4
            lose(8, 0) = 1; at(8, 0) = 1; at(5, 0) = 4
            link(8, 0) = 0; at(8, 0) = 8
            """);
        test("(NONE: it has no way)", """
            node(0, 1); node(2, 2); node(4, 4)
            at(1|2|3, 0) = NONE; told(5) = 0
            link(0, 3) = 1; at(3, 0) = 1; at(2, 0) = 2; at(1, 0) = 3; told(5) = 3
            link(2, 3) = 0; at(3, 0) = 1; at(1|2, 0) = NONE; told(5) = 1
            """);
    }

    private static void uppers() {
        test("NODES of a RING that are LINKED with one of the RING below: UPPER ones of it.", """
            at(0, 2) = 0
            node(0, 0); node(2, 0); at(1|2, 2) = 0              # no ring, so none above, though linked
            link(0, 1); at(0, 2) = 0; at(1, 2) = 1; at(2, 2) = 2
            link(0, 2); at(1, 2) = 1; at(2, 2) = 1              # linked in one ring: neither is above the other
            lose(0, 2); at(2, 2) = 1
            """);
        test("NODES of a RING that are LINKED with one of the RING below: UPPER ones of it.", """
            7 * node(1, 0); node(254, 0); at(8, 0) = 2; at(8, 2) = 254; at(8, 1) = 254
            at(1|7, 2) = 1; at(1|7, 1) = 257; at(0, 1) = 254
            """);
    }

    private static void modes() {
        test("MODE (0 at first): 0 each NODE tells all its UPPER ones; 1 only the least of these.", """
            told(4) = 0; 7 * node(1, 0); node(254, 1); told(8) = 14
            mode(1) = 0; told(4) = 1; told(8) = 8; letter(0, 0) = 8; letter(0, 1) = 1; letter(1, 0) = 1; at(8, 2) = 254
            link(1, 8); letter(0, 1) = 2; told(8) = 8
            lose(2, 8); letter(0, 1) = 2; letter(0, 2) = 0; at(8, 4) = 0  # lost, it stays the least
            mode(0) = 1; told(4) = 0; told(8) = 13; at(8, 4) = 5
            """);
        test("MODE (0 at first): 0 each NODE tells all its UPPER ones; 1 only the least of these.", """
            mode(1) = 0; told(8) = 0; node(0, 3); told(8) = 0; at(1, 4) = 0; holds(0, 3) = 0
            """);
    }

    // ---- section 2

    private static void counts() {
        test("KIND 0 COUNT: how many.", """
            holds(0, 0) = 0; hear(0, 1); holds(0, 0) = 1; hear(0, 32768); holds(0, 0) = 1; hear(0, 65535); holds(0, 0) = 16
            """);
        test("Of two SUMMARIES PUT TOGETHER: 0 the sum", """
            # rings of 1, 3, 2, 2, 1 nodes, all linked with all of the next: no nine nodes count more
            hear(0, 65535); 3 * node(1, 65535); 2 * node(14, 65535); 2 * node(48, 65535); node(192, 65535)
            at(8, 4) = 12; at(6, 4) = 6; at(4, 4) = 3; at(1, 4) = 1; holds(0, 0) = 16 * 34; holds(0, 3) = 65535
            """);
    }

    private static void bits() {
        test("1 BITS: the SET of their RANKS.", """
            holds(0, 1) = 0
            hear(0, 1); holds(0, 1) = 8; hear(0, 2); holds(0, 1) = 1; hear(0, 10); holds(0, 1) = 1
            hear(0, 65535); holds(0, 1) = 15
            salt(842); holds(0, 1) = 128; salt(21); holds(0, 1) = 143; salt(29); holds(0, 1) = 115
            """);
    }

    private static void least() {
        test("2 LEAST: the three least of their MARKS, unlike ones (fewer, if there are fewer).", """
            # marks of items 0 .. 4: 632, 241, 874, 483, 92
            holds(0, 2) = 1024 + 2000 * 1024 + 4000000 * 1024
            hear(0, 4); holds(0, 2) = 874 + 2000 * 1024 + 4000000 * 1024
            hear(0, 5); holds(0, 2) = 632 + 2000 * 874 + 4000000 * 1024
            hear(0, 7); holds(0, 2) = 241 + 2000 * 632 + 4000000 * 874
            hear(0, 15); holds(0, 2) = 241 + 2000 * 483 + 4000000 * 632
            hear(0, 31); holds(0, 2) = 92 + 2000 * 241 + 4000000 * 483
            """);
        test("2 LEAST: the three least of their MARKS, unlike ones (fewer, if there are fewer).", """
            hear(0, 65535)
            salt(13130); holds(0, 2) = 0 + 2000 * 1024 + 4000000 * 1024     # 16 items, one mark
            salt(1084); holds(0, 2) = 511 + 2000 * 1023 + 4000000 * 1024    # two
            salt(4454); holds(0, 2) = 0 + 2000 * 1 + 4000000 * 2            # three
            salt(116); holds(0, 2) = 0 + 2000 * 1 + 4000000 * 2             # four
            salt(2052); holds(0, 2) = 1019 + 2000 * 1020 + 4000000 * 1021   # the greatest three that there can be
            """);
    }

    private static void together() {
        test("2 the three least, unlike ones, of all of both.", """
            node(1, 0); holds(0, 2) = 1024 + 2000 * 1024 + 4000000 * 1024
            hear(1, 1); holds(0, 2) = 632 + 2000 * 1024 + 4000000 * 1024            # none and one
            hear(0, 1); holds(0, 2) = 632 + 2000 * 1024 + 4000000 * 1024            # the same one
            hear(0, 2); holds(0, 2) = 241 + 2000 * 632 + 4000000 * 1024             # one and one
            hear(0, 26); hear(1, 5); holds(0, 2) = 92 + 2000 * 241 + 4000000 * 483  # three below two
            hear(0, 5); hear(1, 26); holds(0, 2) = 92 + 2000 * 241 + 4000000 * 483  # two above three
            hear(0, 18); hear(1, 13); holds(0, 2) = 92 + 2000 * 241 + 4000000 * 483 # the third comes
            hear(0, 24); hear(1, 6); holds(0, 2) = 92 + 2000 * 241 + 4000000 * 483  # one between
            hear(0, 10); hear(1, 20); holds(0, 2) = 92 + 2000 * 241 + 4000000 * 483 # one below
            hear(0, 26); hear(1, 26); holds(0, 2) = 92 + 2000 * 241 + 4000000 * 483 # all the same
            """);
        test("2 the three least, unlike ones, of all of both.", """
            salt(1084); node(1, 65535); holds(0, 2) = 511 + 2000 * 1023 + 4000000 * 1024 # other items, the same marks
            hear(0, 1); hear(1, 4); mark(0, 0) = 511; mark(2, 0) = 511; holds(0, 2) = 511 + 2000 * 1024 + 4000000 * 1024
            holds(0, 0) = 2; holds(0, 3) = 5
            """);
        test("1, 3 what is in one of both", """
            node(1, 0); holds(0, 1|3) = 0
            hear(1, 32768); holds(0, 1) = 1; holds(0, 3) = 32768
            hear(0, 32768); holds(0, 1) = 1; holds(0, 3) = 32768
            hear(0, 1); holds(0, 1) = 9; holds(0, 3) = 32769
            """);
    }

    private static void telling() {
        test("NODES of the greatest RING first, then those of the next lower one, and so on, in a RING the least number first", """
            # node 1 is farthest, node 8 nearest: letters go by ring, not by number
            8 * node(0, 0)
            link(0, 8); link(8, 7); link(7, 6); link(6, 5); link(5, 4); link(4, 3); link(3, 2); link(2, 1)
            told(8) = 8; letter(0, 0) = 1; letter(0, 1) = 2; letter(6, 0) = 7; letter(7, 0) = 8; letter(7, 1) = 0
            letter(8, 0) = UNKNOWN
            """);
        test("it sends this to its UPPER ones (by MODE), the least number first", Nets.MOST_LETTERS, """
            told(8) = 20
            letter(0|1|2|3, 0) = 5; letter(0, 1) = 1; letter(1, 1) = 2; letter(2, 1) = 3; letter(3, 1) = 4
            letter(12|13|14|15, 0) = 8; letter(12, 1) = 1; letter(15, 1) = 4
            letter(16, 0) = 1; letter(19, 0) = 4; letter(16|17|18|19, 1) = 0
            letter(20, 0|1|2) = UNKNOWN; letter(-1, 0|1|2) = UNKNOWN
            """);
        test("these are LETTERS, numbered as they are sent.", """
            letter(0, 0) = UNKNOWN; node(0, 0); letter(0, 0) = UNKNOWN
            link(0, 1); letter(0, 0) = 1; letter(1, 0) = UNKNOWN
            node(2, 0); letter(0, 0) = 2; letter(1, 0) = 1; letter(2, 0) = UNKNOWN
            take(); letter(0, 0) = 1; letter(1, 0) = UNKNOWN
            """);
        test("A LETTER does not come, if its LINK is LOST.", """
            node(1, 7); node(2, 8); lose(1, 2)
            told(8) = 2; told(9) = 1; letter(0, 2) = 0; sent(0, 3) = 8; holds(1, 3) = 7; holds(0, 3) = 7; at(1, 5) = 0
            lose(0, 1); told(8) = 2; told(9) = 2; letter(1, 2) = 0; sent(1, 3) = 7; holds(0, 3) = 0; holds(0, 0) = 0; at(0, 5) = 0
            lose(1, 2); told(9) = 1; letter(0, 2) = 1; holds(1, 3) = 15; sent(1, 3) = 15; holds(0, 3) = 0
            lose(0, 1); told(9) = 0; holds(0, 3) = 15; at(0, 5) = 1
            """);
        test("The MIDDLE HOLDS likewise, at last.", Nets.CHAIN, """
            hear(0, 256); holds(8, 3) = 128; holds(1, 3) = 255; holds(0, 3) = 511; holds(0, 0) = 9
            8 * take(); holds(0, 3) = 256; holds(0, 0) = 1
            """);
    }

    private static void guessesByBits() {
        test("(0 for no BITS)", "guess(0, 1) = 0; hear(0, 1); guess(0, 1) = 1; hear(0, 0); guess(0, 1) = 0");
        test("with Z the least RANK that is not in them (8, if all are): 2 to the Z, times 1000 / 773", """
            # ranks of items 0 .. 4: 3, 0, 1, 0, 2
            hear(0, 1); guess(0, 1) = 1; hear(0, 21); guess(0, 1) = 1  # rank 0 is not in them: 1000 / 773
            hear(0, 2); guess(0, 1) = 2                                # 2000 / 773
            hear(0, 6); guess(0, 1) = 5                                # 4000 / 773
            hear(0, 22); guess(0, 1) = 10                              # 8000 / 773
            hear(0, 23); guess(0, 1) = 20                              # 16000 / 773
            hear(0, 19); guess(0, 1) = 2                               # ranks 0, 2, 3: 1 is the least that is not
            hear(0, 65535); salt(7); holds(0, 1) = 31; guess(0, 1) = 41 # no salt gives ranks 0 to 5 at once
            salt(842); holds(0, 1) = 128; guess(0, 1) = 1
            """);
    }

    private static void guessesByLeast() {
        test("with fewer than three how many there are", """
            guess(0, 2) = 0; hear(0, 16); guess(0, 2) = 1; hear(0, 18); guess(0, 2) = 2
            hear(0, 26); guess(0, 2) = 4                    # three: 2048 / 484
            hear(0, 65535); salt(13130); guess(0, 2) = 1; salt(1084); guess(0, 2) = 2; salt(4454); guess(0, 2) = 682
            """);
        test("else 2 times 1024 / (the greatest of the three, and 1)", """
            salt(361); hear(0, 35); mark(5, 0) = 1023; guess(0, 2) = 2 # 2048 / 1024
            hear(0, 65535); guess(0, 2) = 4                            # 2048 / 512
            salt(116); guess(0, 2) = 682                               # 2048 / 3: none can be greater
            salt(582); guess(0, 2) = 512                               # 2048 / 4
            """);
    }

    private static void truth() {
        test("TRUE: how many unlike ITEMS are HEARD by NODES that have a RING.", """
            told(7) = 0; node(0, 65535); told(7) = 0; node(2, 1); told(7) = 0
            link(0, 2); told(7) = 16; link(1, 2); told(7) = 1
            hear(0, 1); told(7) = 1; hear(0, 2); told(7) = 2
            lose(0, 2); told(7) = 2
            """);
        test("OFF: a GUESS less TRUE.", """
            off(1|2) = 100000; hear(0, 65535); off(1) = 100004; off(2) = 99995
            hear(0, 0); node(1, 65535); lose(0, 1); off(1|2) = 99984
            lose(0, 1); salt(116); off(2) = 100666; salt(7); off(1) = 100025
            """);
    }

    private static void ways() {
        test("WAYS of a NODE: in how many ways what it sends comes to the MIDDLE", Nets.LATTICE, """
            at(5, 4) = 4; lose(5, 3); at(5, 4) = 2; lose(4, 1); at(5, 4) = 1; lose(4, 2); at(5, 4) = 0; at(3, 4) = 2
            node(0, 0); at(6, 4) = 0
            """);
        test("(that do not get lost; 1 for the MIDDLE itself)", """
            at(0, 4) = 1; node(1, 0); lose(0, 1); at(0, 4) = 1; at(1, 4) = 0; lose(0, 1); at(1, 4) = 1
            """);
        test("COMES: the SET of NODES with WAYS of 1 at least.", Nets.CHAIN, """
            told(6) = 511; lose(7, 8); told(6) = 255; lose(0, 1); told(6) = 1; lose(0, 1); told(6) = 255
            link(0, 8); told(6) = 287; lose(0, 8); lose(3, 4); told(6) = 15
            """);
    }

    // ---- section 3

    private static void onTheWhole() {
        test("ON THE WHOLE, of n ITEMS (1 .. 8)", """
            rows(0, 0|8) = OUTSIDE; rows(-1|LOW, 0) = OUTSIDE; rows(9|HIGH, 0) = OUTSIDE
            rows(1, 0) = 64; rows(8, 0) = 281474976710656
            """);
        test("each of which has RANK r in 2 to the (6 less r) of 128 ways (r 0 .. 6), RANK 7 in one", """
            rows(1, 0) = 64; rows(1, 1) = 64; rows(1, 2|3|4|5|6|7|8) = 0
            rows(7, 7) = 5040 * 2097152       # ranks 0 .. 6, each once: 64 * 32 * 16 * 8 * 4 * 2 * 1
            rows(7, 8) = 0
            rows(8, 8) = 40320 * 2097152      # and rank 7, in one way
            rows(8, 7) = 5369380208640
            """);
        test("those with Z (0 .. 8)", """
            rows(8, -1|LOW) = OUTSIDE; rows(8, 9|HIGH) = OUTSIDE
            rows(2, 0) = 4096; rows(2, 1) = 8192; rows(2, 2) = 4096; rows(2, 3|4|5|6|7|8) = 0
            """);
        for (int n = 1; n <= 8; n++) {
            long sum = 0;
            for (int z = 0; z <= 8; z++) {
                sum += new TwiceHeard().rows(n, z);
            }
            DUE.is("all rows of " + n + " items", sum, 1L << 7 * n);
        }
    }

    private static void book() {
        test("THE BOOK (20 at most)", """
            told(10) = 0; write(0, 0) = 1; told(10) = 1; 18 * write(0, 0); told(10) = 19; write(0, 0) = 20; told(10) = 20
            told(11) = NONE; write(0, 1) = FULL; told(10) = 20; told(11) = NONE
            tear() = 20; told(10) = 0; write(0, 1) = 1; told(11) = 0
            """);
        test("WRONG: the first that is otherwise now", """
            told(11) = NONE; 19 * write(0, 0); told(11) = NONE; write(0, 1); told(11) = 19
            hear(0, 1); told(11) = 0; hear(0, 0); told(11) = 19
            tear(); told(11) = NONE
            """);
        test("WRONG: the first that is otherwise now", """
            write(0, 1); write(0, 0); told(11) = 0; hear(0, 1); told(11) = 1; hear(0, 2); told(11) = 0
            """);
        test("(a NODE that there is no more, that has no RING: it is, too); NONE.", """
            node(1, 0); node(1, 1); write(1, 0); write(2, 1); told(11) = NONE
            take(); told(11) = 1; node(1, 1); told(11) = NONE     # another of the same number
            link(0, 2); told(11) = 1; link(0, 2); told(11) = NONE
            link(0, 1); told(11) = 0
            """);
        test("(a NODE that there is no more, that has no RING: it is, too); NONE.", """
            node(0, 0); write(1, 0); told(11) = 0; tear(); write(1, NONE); told(11) = 0; tear(); write(0, NONE); told(11) = 0
            """);
    }

    private static void draws() {
        test("THE SEED (0 at first", "told(13) = 0; drift(1); told(13) = 1406932606");
        test("each DRAW it becomes it times 1103515245 and 12345, left over by 2 to the 31", seedRow(0), seedRow(1),
            seedRow(2147483646), seedRow(2147483647), seedRow(1073741824), seedRow(65536));
        test("the DRAW of n is it / 65536, left over by n", drawRows(1), drawRows(2), drawRows(9));
        test("this NODE HEARS this ITEM, too, or (if it did) no more.", """
            # the second draw is 1406932606 / 65536, left over by 16: 12
            drift(1) = 1; at(0, 3) = 4096; seed(0); drift(1) = 0; at(0, 3) = 0
            hear(0, 65535); seed(0); drift(1) = 15; at(0, 3) = 61439; seed(0); drift(1) = 16; at(0, 3) = 65535
            """);
    }

    private static String seedRow(int from) {
        BigInteger due = drawn(drawn(BigInteger.valueOf(from)));
        return "seed(" + from + "); drift(1); told(13) = " + due + "\n";
    }

    /** With so many nodes, none of which hears anything: the first draw says who hears, the second which item. */
    private static String drawRows(int n) {
        StringBuilder rows = new StringBuilder("keep(0)\n");
        rows.append(n - 1).append(" * node(0, 0)\n");
        for (int from : new int[] {0, 5, 12345, 2147483647, 1000000007, 77, 4711}) {
            BigInteger first = drawn(BigInteger.valueOf(from));
            int v = first.intValue() / 65536 % n;
            int item = drawn(first).intValue() / 65536 % 16;
            rows.append("seed(").append(from).append("); drift(1); at(").append(v).append(", 3) = ").append(1 << item);
            rows.append("; undo(1)\n");
        }
        return rows.append("goBack(0)\n").toString();
    }

    private static void undone() {
        test("(node(), take(), link(), lose(), hear(), salt(), mode(), each time BY DRAWS)", """
            told(12) = 0
            node(1, 1); told(12) = 1; take(); told(12) = 2; node(1, 0); link(0, 1); told(12) = 4
            link(0, 1); lose(0, 1); told(12) = 6; hear(1, 3); told(12) = 7; salt(5); told(12) = 8; mode(1); told(12) = 9
            drift(3); told(12) = 12; drift(1); told(12) = 13
            seed(4); write(0, 0); tear(); told(12) = 13
            """);
        test("since the IMAGE", """
            salt(1); keep(0); told(12) = 0; undo(1) = NOT; salt(2); undo(2) = NOT; undo(1) = 0; told(3) = 1
            salt(3); goBack(0); told(12) = 0; undo(1) = NOT; told(3) = 1; salt(4); undo(1) = 0; told(3) = 1
            """);
        test("(16 at most are kept)", """
            salt(1); salt(2); salt(3); salt(4); salt(5); salt(6); salt(7); salt(8); salt(9); salt(10); salt(11); salt(12)
            salt(13); salt(14); salt(15); told(12) = 15; salt(16); told(12) = 16
            undo(16) = 0; told(3) = 0; undo(1) = NOT
            """);
        test("(16 at most are kept)", """
            salt(1); salt(2); salt(3); salt(4); salt(5); salt(6); salt(7); salt(8); salt(9); salt(10); salt(11); salt(12)
            salt(13); salt(14); salt(15); salt(16); salt(17); told(12) = 16
            undo(1) = 15; told(3) = 16; undo(16) = NOT; undo(15) = 0; told(3) = 1; undo(1) = NOT; told(3) = 1
            """);
        test("(16 at most are kept)", """
            # twelve and twelve times: the eight first ones are beyond being undone
            drift(12); drift(12); told(12) = 16; undo(8) = 8; undo(8) = 0; undo(1) = NOT
            """, "at(0, 3) = " + heardSet(8));
        test("all of section 1 is as ahead of them; THE SEED, THE BOOK stay.", """
            node(1, 3); lose(0, 1); salt(7); mode(1); keep(0)
            node(3, 9); link(0, 1); lose(0, 2); hear(1, 5); salt(8); mode(0); seed(1); drift(2); take(); write(0, 5)
            undo(9) = 0
            told(0) = 2; told(1) = 1; told(2) = 1; told(3) = 7; told(4) = 1; at(0, 3) = 0; at(1, 3) = 3; isLost(0, 1) = 1
            told(10) = 1; told(11) = 0
            """, "told(13) = " + drawn(drawn(drawn(drawn(BigInteger.ONE)))));
    }

    private static int heardSet(int times) {
        BigInteger seed = BigInteger.ZERO;
        int heard = 0;
        for (int i = 0; i < times; i++) {
            seed = drawn(drawn(seed));
            heard ^= 1 << seed.intValue() / 65536 % 16;
        }
        return heard;
    }

    private static void images() {
        test("IMAGES 0, 1 keep all of section 1, THE SEED.", """
            node(1, 3); lose(0, 1); salt(65535); mode(1); seed(HIGH); keep(0) = 1
            write(0, 9); take(); salt(0); mode(0); seed(0); hear(0, 65535); keep(1) = 1
            keep(-1|2|LOW|HIGH) = UNKNOWN; goBack(-1|2|LOW|HIGH) = UNKNOWN
            goBack(0) = 1; told(0) = 2; told(1) = 1; told(2) = 1; told(3) = 65535; told(4) = 1; told(13) = HIGH
            at(0, 3) = 0; at(1, 3) = 3; isLost(0, 1) = 1; told(10) = 1
            goBack(1) = 1; told(0) = 1; told(1) = 0; told(2) = 0; told(3) = 0; told(4) = 0; told(13) = 0; at(0, 3) = 65535
            told(10) = 1; goBack(0) = 1; told(0) = 2
            """);
    }
}
