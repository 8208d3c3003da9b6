/** Sentences of the document that name no boundary, and the words between those that do: a test of their own. */
public final class SentencesTest {
    private static final Rows ROWS = new Rows("sentences");

    public static void main(String[] args) {
        whatIsHeardAndTold();
        summaries();
        lettersAndWays();
        guesses();
        onTheWhole();
        deedsBookImages();
        refusals();
        marks();
        summariesOfASet();
        telling();
        guessTerms();
        book();
        draws();
        undone();
        headsOfPromises();
        ROWS.end();
    }

    private static void test(String words, String... rows) {
        ROWS.test(words, rows);
    }

    // ---- what it is

    private static void whatIsHeardAndTold() {
        test("Sums that may be heard twice: nodes that hear items, several perhaps the same ones", """
            node(1, 3); node(1, 3); node(1, 6)
            at(1|2, 3) = 3; at(3, 3) = 6; told(7) = 3; holds(0, 3) = 7; holds(0, 0) = 6
            """);
        test(", and tell what they heard ring by ring to the node in the middle, by one way or by all", Nets.LATTICE, """
            holds(5, 3) = 16; holds(3, 3) = 20; holds(4, 3) = 24; holds(1, 3) = 29; holds(2, 3) = 30; holds(0, 3) = 31
            mode(1); holds(3, 3) = 20; holds(4, 3) = 8; holds(1, 3) = 29; holds(2, 3) = 2; holds(0, 3) = 31
            """);
    }

    private static void summaries() {
        test("four summaries: a count, which counts again what comes twice", Nets.LATTICE, """
            holds(0, 0) = 10 # item 4 comes by four ways, items 2 and 3 by two
            mode(1); holds(0, 0) = 5
            hear(1|2|3|4|5, 1); holds(0, 0) = 5; told(7) = 1
            """);
        test("a row of bits by ranks", Nets.LATTICE, "holds(5, 1) = 4; holds(4, 1) = 5; holds(3, 1) = 6; holds(2, 1) = 7; holds(0, 1) = 15");
        test("the three least of drawn numbers", Nets.LATTICE, """
            holds(0, 2) = 92 + 2000 * 241 + 4000000 * 483; holds(3, 2) = 92 + 2000 * 874 + 4000000 * 1024
            """);
        test("the items themselves", Nets.LATTICE, "holds(0, 3) = 31; hear(5, 40000); holds(5, 3) = 40000; holds(0, 3) = 40015");
    }

    private static void lettersAndWays() {
        test("letters that are lost", Nets.LATTICE, """
            lose(5, 3); told(8) = 8; told(9) = 1; letter(0, 2) = 0; letter(1, 2) = 1; holds(3, 3) = 4; holds(4, 3) = 24
            """);
        test("what comes to the middle, how many ways there are, whose hearing comes at all", Nets.LATTICE, """
            holds(0, 3) = 31; at(5, 4) = 4; told(6) = 63
            lose(5, 3); holds(0, 3) = 31; at(5, 4) = 2; told(6) = 63
            lose(5, 4); holds(0, 3) = 15; at(5, 4) = 0; told(6) = 31
            """);
        test("letters in the order in which they go", Nets.LATTICE, """
            letter(0|1, 0) = 5; letter(2|3, 0) = 3; letter(4|5, 0) = 4; letter(6, 0) = 1; letter(7, 0) = 2
            letter(0, 1) = 3; letter(1, 1) = 4; letter(2|4, 1) = 1; letter(3|5, 1) = 2; letter(6|7, 1) = 0
            """);
    }

    private static void guesses() {
        test("guesses from rows of bits and from least numbers, how far they are off", Nets.LATTICE, """
            guess(0, 1) = 20; guess(0, 2) = 4; off(1) = 100015; off(2) = 99999
            guess(3, 1) = 1; guess(3, 2) = 2
            """);
    }

    private static void onTheWhole() {
        test("what the guess is on the whole, over all draws of ranks, exactly", """
            rows(8, 0) = 281474976710656; rows(8, 1) = 7212796278210560; rows(8, 2) = 23053735177486336
            rows(8, 3) = 26348284331163648; rows(8, 4) = 12501134748942336; rows(8, 5) = 2462304750796800
            rows(8, 6) = 192409837240320; rows(8, 7) = 5369380208640; rows(8, 8) = 84557168640
            """);
        test("RANK 7 in one: of all rows of such ways (128 to the n) those with Z", """
            rows(4, 0) = 16777216; rows(4, 1) = 83886080; rows(4, 2) = 111149056; rows(4, 3) = 50331648; rows(4, 4) = 6291456
            rows(4, 5|6|7|8) = 0  # 268435456 in all
            """);
    }

    private static void deedsBookImages() {
        test("nodes, links, hearing told one by one, undone", """
            node(0, 3) = 1; link(0, 1) = 1; hear(1, 5) = 3; lose(0, 1) = 1
            undo(1) = 3; isLost(0, 1) = 0; undo(1) = 2; at(1, 3) = 3; undo(1) = 1; at(0, 1) = 0; undo(1) = 0; told(0) = 1
            """);
        test("books of guesses judged", Nets.LATTICE, """
            write(0, 20); write(3, 1); write(5, 1); told(11) = NONE; write(2, 9); told(11) = 3; hear(3, 6); told(11) = 1
            """);
        test("hearing by draws", """
            # from seed 2024 node 2 hears items 0 and 1, node 1 item 6, node 2 item 9
            2 * node(1, 0); seed(2024); drift(4) = 4; at(0, 3) = 0; at(1, 3) = 64; at(2, 3) = 515; told(13) = 1061809152
            """);
        test("images to go on from.", Nets.LATTICE, """
            seed(2024); keep(0); drift(2); take(); salt(3); goBack(0) = 1; told(0) = 6; told(3) = 0; told(13) = 2024
            hear(0, 32) = 0; holds(0, 3) = 63; goBack(0); holds(0, 3) = 31
            """);
    }

    // ---- terms

    private static void refusals() {
        test("NONE is -1.", """
            node(0, 1); node(0, 2); at(1, 0) = -1; holds(1, 0|1|2|3) = -1; guess(2, 1|2) = -1; told(11) = -1
            """);
        test("NOT (not now, as told), FULL.", """
            take() = NOT; undo(1) = NOT; goBack(0) = NOT
            8 * node(0, 0); node(0, 0) = FULL; 20 * write(0, 0); write(0, 0) = FULL
            """);
    }

    private static void marks() {
        test("MARK of an ITEM i: (i and 1) times (2 SALT and 1) times 40503, left over by 65536, / 64", """
            mark(4, 0) = 92; salt(3); mark(0, 0) = 334; mark(4, 0) = 646; mark(7, 0) = 624; mark(15, 0) = 224
            salt(12345); mark(0, 0) = 714; mark(2, 0) = 96; mark(9, 0) = 1004; mark(15, 0) = 173
            """);
    }

    private static void summariesOfASet() {
        test("SUMMARIES, of a SET of ITEMS: KIND 0 COUNT: how many.", """
            # items 0, 2, 3, 4 by salt 12345: marks 714, 96, 811, 502 of ranks 1, 5, 0, 1
            salt(12345); hear(0, 29); holds(0, 0) = 4; holds(0, 1) = 35; holds(0, 2) = 96 + 2000 * 502 + 4000000 * 714
            holds(0, 3) = 29
            """);
        test("3 ALL: the SET itself.", "hear(0, 40000); holds(0, 3) = 40000; salt(3); holds(0, 3) = 40000; hear(0, 1); holds(0, 3) = 1");
    }

    private static void telling() {
        test("TOLD by a KIND: NODES of the greatest RING first", """
            # node 1 is of ring 2, node 2 of ring 1: what node 1 tells comes on with what node 2 tells
            node(0, 1); node(3, 2); letter(0, 0) = 1; letter(1, 0) = 2; sent(1, 0) = 2; sent(1, 3) = 3; sent(1, 1) = 9
            sent(1, 2) = 241 + 2000 * 632 + 4000000 * 1024; holds(0, 3) = 3
            """);
        test(": what a NODE HOLDS is the SUMMARY of what it HEARS, PUT TOGETHER with that of each LETTER which came to it;", """
            hear(0, 1); node(1, 3); node(1, 6); node(1, 64); lose(0, 3)
            at(0, 3) = 1; holds(0, 0) = 5; holds(0, 1) = 11; holds(0, 2) = 241 + 2000 * 632 + 4000000 * 874; holds(0, 3) = 7
            holds(3, 3) = 64
            """);
        test("comes to the MIDDLE, LETTER by LETTER (that do not get lost", Nets.LATTICE, """
            # a way is lost with any of its letters
            at(5, 4) = 4; lose(0, 1); at(5, 4) = 2; at(3|4, 4) = 1; at(1, 4) = 0; at(2, 4) = 1; lose(2, 3); at(5, 4) = 1; at(3, 4) = 0
            """);
    }

    private static void guessTerms() {
        test("GUESS by BITS: with Z the least RANK that is not in them", """
            hear(0, 55); holds(0, 1) = 15; guess(0, 1) = 20; hear(0, 39); holds(0, 1) = 11; guess(0, 1) = 5
            """);
        test(". GUESS by LEAST: with fewer than three how many there are; else 2 times 1024 / (the greatest of the three, and 1).", """
            hear(0, 3); guess(0, 2) = 2; hear(0, 11); guess(0, 2) = 3; hear(0, 4106); guess(0, 2) = 4; hear(0, 65535); guess(0, 2) = 11
            """);
    }

    private static void book() {
        test("THE BOOK (20 at most) tells the GUESS by BITS of what a NODE HOLDS: WRONG: the first that is otherwise now", """
            # node 1 hears item 1 alone (2 by bits, 1 by least) and holds items 1 and 2 (5 by bits, 2 by least)
            node(1, 2); node(2, 4); write(1, 5) = 1; told(11) = NONE; write(1, 2) = 2; told(11) = 1
            lose(1, 2); told(11) = 0; lose(1, 2); told(11) = 1; salt(1); told(11) = 0
            """);
    }

    private static void draws() {
        test("BY DRAWS: THE SEED (0 at first: each DRAW it becomes it times 1103515245 and 12345", "told(13) = 0; drift(1); told(13) = 1406932606");
        test("): n times: a DRAW of N, of 16: this NODE HEARS this ITEM, too, or (if it did) no more.", """
            # from seed 18 of three nodes node 2 hears item 10, and then no more
            2 * node(1, 5); seed(18); drift(1) = 3; at(2, 3) = 1029; drift(1) = 2; at(2, 3) = 5; told(13) = 316279646
            undo(2); seed(18); drift(2) = 2; at(0, 3) = 0; at(1|2, 3) = 5; told(13) = 316279646
            """);
    }

    private static void undone() {
        test("UNDONE: the latest deeds (node(), take(), link(), lose(), hear(), salt(), mode(), each time BY DRAWS) since the IMAGE", """
            salt(9); keep(1); salt(8); mode(1); salt(7); told(12) = 3
            undo(1) = 2; told(3) = 8; told(4) = 1; undo(2) = 0; told(3) = 9; told(4) = 0; undo(1) = NOT
            """);
    }

    // ---- promises

    private static void headsOfPromises() {
        test("`int at(int v, int what)`: Of a NODE: what = 0 RING", Nets.LATTICE, """
            at(3, 0) = 2; at(3, 1) = 38; at(3, 2) = 6; at(3, 3) = 4; at(3, 4) = 2; at(3, 5) = 1
            """);
        test("`int node(int linked, int hears)`: A NODE comes", "node(1, 7) = 1; at(1, 1) = 1; at(1, 3) = 7; node(2, 9) = 2; at(2, 1) = 2; at(2, 3) = 9");
        test("UNKNOWN (bits of none), OUTSIDE (HEARS), FULL (9).", """
            node(2, -1) = UNKNOWN; node(1, -1) = OUTSIDE; 8 * node(1, 0); node(512, -1) = UNKNOWN; node(1, -1) = OUTSIDE
            node(1, 0) = FULL
            """);
        test("`int write(int v, int g)`: An entry behind THE BOOK", """
            write(0, 0) = 1; write(0, 1) = 2; told(11) = 1; hear(0, 1); told(11) = 0 # behind: the first stays the first
            """);
    }
}
