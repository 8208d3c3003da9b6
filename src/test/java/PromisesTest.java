/** Each promise by hand, in the document's order: ordinary inputs, the edges it names, refusals and their order. */
public final class PromisesTest {
    private static final int NONE = -1, UNKNOWN = -1000000001, OUTSIDE = -1000000002, NOT = -1000000003, FULL = -1000000004;
    private static final int LOW = Integer.MIN_VALUE, HIGH = Integer.MAX_VALUE;
    private static final Due DUE = new Due("the promises");

    public static void main(String[] args) {
        promise1();
        promise2();
        promise2Book();
        promise3();
        promise4();
        promise5();
        promise6();
        promise6Least();
        promise7();
        promise8();
        promise9();
        promise10();
        promise11();
        promise12();
        promise13();
        promise14();
        promise15();
        promise16();
        promise17();
        promise18();
        promise19();
        promise20();
        promise20EachDeed();
        promise21();
        promise22();
        promise23();
        promise24();
        promise25();
        refusedChangesNothing();
        DUE.end();
    }

    private static void is(String call, long got, long want) {
        DUE.is(call, got, want);
    }

    /** 0 in the middle; 1, 2 in ring 1; 3, 4 in ring 2, each linked with both; 5 in ring 3, linked with both of these. */
    private static TwiceHeard lattice() {
        TwiceHeard x = new TwiceHeard();
        is("node", x.node(1, 1), 1);
        is("node", x.node(1, 2), 2);
        is("node", x.node(6, 4), 3);
        is("node", x.node(6, 8), 4);
        is("node", x.node(24, 16), 5);
        return x;
    }

    private static void promise1() {
        TwiceHeard x = new TwiceHeard();
        int[] due = {1, 0, 0, 0, 0, 0, 1, 0, 0, 0, 0, NONE, 0, 0};
        for (int what = 0; what < due.length; what++) {
            is("1: told(" + what + ")", x.told(what), due[what]);
        }
        is("1: at(0, 3)", x.at(0, 3), 0);
        is("1: goBack(0)", x.goBack(0), NOT);
        is("1: goBack(1)", x.goBack(1), NOT);
        is("1: undo(1)", x.undo(1), NOT);
        is("1: an object of its own", lattice().told(0), 6);
        is("1: an object of its own", x.told(0), 1);
    }

    private static void promise2() {
        TwiceHeard x = lattice();
        is("2: N", x.told(0), 6);
        is("2: LINKS", x.told(1), 8);
        is("2: greatest RING", x.told(5), 3);
        is("2: COMES", x.told(6), 63);
        is("2: TRUE", x.told(7), 5);
        is("2: LETTERS", x.told(8), 8);
        x.lose(1, 3);
        x.lose(2, 3);
        is("2: LINKS, lost ones too", x.told(1), 8);
        is("2: LOST", x.told(2), 2);
        is("2: RING by lost links, too", x.told(5), 3);
        is("2: COMES without 3", x.told(6), 63 - 8);
        is("2: TRUE with what does not come", x.told(7), 5);
        is("2: LETTERS, lost ones too", x.told(8), 8);
        is("2: letters that do not come", x.told(9), 2);
        x.mode(1);
        is("2: LETTERS in mode 1", x.told(8), 5);
        is("2: of these not come", x.told(9), 1);
        is("2: COMES: 5 tells 3 alone", x.told(6), 1 + 2 + 4 + 16);
        x.link(1, 2);
        is("2: a link within a ring carries no letter", x.told(8), 5);
        is("2: MODE", x.told(4), 1);
        x.salt(77);
        is("2: SALT", x.told(3), 77);
        x.node(0, 1 << 15);
        is("2: TRUE without nodes that have no ring", x.told(7), 5);
        is("2: greatest RING without them", x.told(5), 3);
        is("2: can be undone", x.told(12), 11);
        x.seed(2147483647);
        is("2: THE SEED", x.told(13), 2147483647);
        is("2: told(-1)", x.told(-1), OUTSIDE);
        is("2: told(14)", x.told(14), OUTSIDE);
        is("2: told(low)", x.told(LOW), OUTSIDE);
        is("2: told(high)", x.told(HIGH), OUTSIDE);
    }

    private static void promise2Book() {
        TwiceHeard x = new TwiceHeard();
        x.node(1, 1);
        x.node(0, 1);
        is("2: no book, none wrong", x.told(11), NONE);
        x.write(0, 1);
        x.write(1, 1);
        is("2: none wrong", x.told(11), NONE);
        x.write(2, NONE);
        is("2: a node without a ring is wrong, even NONE", x.told(11), 2);
        is("2: entries", x.told(10), 3);
        x.link(0, 2);
        is("2: with a ring its guess is 1", x.told(11), 2);
        x.tear();
        x.write(2, 1);
        is("2: right", x.told(11), NONE);
        x.take();
        is("2: a node that is no more", x.told(11), 0);
        x.node(1, 1);
        is("2: and is there again", x.told(11), NONE);
        x.hear(2, 0);
        is("2: otherwise now", x.told(11), 0);
        x.write(2, 0);
        is("2: the first", x.told(11), 0);
    }

    private static void promise3() {
        TwiceHeard x = lattice();
        x.node(0, 9);
        int[] ring = {0, 1, 1, 2, 2, 3, NONE};
        int[] linked = {6, 25, 25, 38, 38, 24, 0};
        int[] upper = {0, 1, 1, 6, 6, 24, 0};
        int[] hears = {0, 1, 2, 4, 8, 16, 9};
        int[] ways = {1, 1, 1, 2, 2, 4, 0};
        int[] came = {2, 2, 2, 1, 1, 0, 0};
        int[][] due = {ring, linked, upper, hears, ways, came};
        for (int v = 0; v < 7; v++) {
            for (int what = 0; what < 6; what++) {
                is("3: at(" + v + ", " + what + ")", x.at(v, what), due[what][v]);
            }
        }
        x.lose(3, 1);
        is("3: WAYS with a loss", x.at(5, 4), 3);
        is("3: LETTERS that come", x.at(1, 5), 1);
        is("3: LINKED, lost too", x.at(1, 1), 25);
        is("3: UPPER, lost too", x.at(3, 2), 6);
        x.mode(1);
        is("3: UPPER ones in mode 1 are all", x.at(5, 2), 24);
        is("3: WAYS in mode 1: the least one's letter is lost", x.at(5, 4), 0);
        is("3: LETTERS in mode 1", x.at(3, 5), 1);
        is("3: LETTERS in mode 1", x.at(4, 5), 0);
        is("3: of ring 0 no upper ones", x.at(0, 2), 0);
        x.link(6, 5);
        is("3: a way by others", x.at(6, 0), 4);
        for (int what : new int[] {-1, 6, LOW, HIGH}) {
            is("3: what " + what, x.at(0, what), OUTSIDE);
            is("3: UNKNOWN ahead of OUTSIDE", x.at(7, what), UNKNOWN);
        }
        for (int v : new int[] {-1, 7, 9, 31, 32, LOW, HIGH}) {
            is("3: node " + v, x.at(v, 0), UNKNOWN);
        }
    }

    private static void promise4() {
        TwiceHeard x = lattice();
        is("4: not lost", x.isLost(0, 1), 0);
        x.lose(0, 1);
        is("4: lost", x.isLost(0, 1), 1);
        is("4: the other way round", x.isLost(1, 0), 1);
        is("4: another", x.isLost(0, 2), 0);
        is("4: not linked", x.isLost(0, 3), UNKNOWN);
        is("4: one twice", x.isLost(1, 1), UNKNOWN);
        for (int v : new int[] {-1, 6, 32, 33, LOW, HIGH}) {
            is("4: no node", x.isLost(0, v), UNKNOWN);
            is("4: no node", x.isLost(v, 0), UNKNOWN);
            is("4: no nodes", x.isLost(v, v), UNKNOWN);
        }
    }

    private static void promise5() {
        TwiceHeard x = new TwiceHeard();
        is("5: 40503 / 64", x.mark(0, 0), 632);
        is("5: 632 is 79 times 8", x.mark(0, 1), 3);
        is("5: 16 times 40503 left over", x.mark(15, 0), 909);
        is("5: odd", x.mark(15, 1), 0);
        x.salt(13130);
        is("5: all marks are 0", x.mark(0, 0), 0);
        is("5: MARK 0: RANK 7", x.mark(0, 1), 7);
        is("5: all marks are 0", x.mark(15, 0), 0);
        x.salt(119);
        boolean seen = false;
        for (int i = 0; i < 16; i++) {
            if (x.mark(i, 0) == 512 || x.mark(i, 0) == 256) {
                seen = true;
                is("5: RANK is 7 at most", x.mark(i, 1), 7);
            }
        }
        DUE.holds("5: marks 256, 512 were met", seen);
        x.salt(65535);
        is("5: the greatest salt", x.mark(15, 0), 131071L * 16 * 40503 % 65536 / 64);
        for (int i : new int[] {-1, 16, LOW, HIGH}) {
            is("5: item " + i, x.mark(i, 0), OUTSIDE);
            is("5: item " + i, x.mark(i, 1), OUTSIDE);
        }
        for (int what : new int[] {-1, 2, LOW, HIGH}) {
            is("5: what " + what, x.mark(0, what), OUTSIDE);
        }
    }

    private static void promise6() {
        TwiceHeard x = lattice();
        x.node(0, 1);
        is("6: COUNT counts again", x.holds(0, 0), 4 + 2 + 2 + 1 + 1);
        is("6: COUNT of 1", x.holds(1, 0), 2 + 1 + 1 + 1);
        is("6: ALL", x.holds(0, 3), 31);
        is("6: ALL of 3", x.holds(3, 3), 20);
        // ranks of items 0 .. 4: 3, 0, 1, 0, 2
        is("6: BITS", x.holds(0, 1), 15);
        is("6: BITS of 3", x.holds(3, 1), 6);
        for (int kind = 0; kind < 4; kind++) {
            is("6: no RING", x.holds(6, kind), NONE);
            is("6: no node", x.holds(7, kind), UNKNOWN);
        }
        x.lose(5, 3);
        is("6: a letter lost", x.holds(3, 3), 4);
        is("6: a letter lost", x.holds(0, 0), 2 + 2 + 2 + 1 + 1);
        is("6: by another way it comes", x.holds(0, 3), 31);
        x.mode(1);
        is("6: by one way", x.holds(0, 3), 15);
        is("6: COUNT by one way", x.holds(0, 0), 4);
        is("6: node 2 gets none", x.holds(2, 3), 2);
        for (int kind : new int[] {-1, 4, LOW, HIGH}) {
            is("6: kind", x.holds(0, kind), OUTSIDE);
            is("6: OUTSIDE ahead of NONE", x.holds(6, kind), OUTSIDE);
            is("6: UNKNOWN ahead of OUTSIDE", x.holds(7, kind), UNKNOWN);
            is("6: UNKNOWN ahead of OUTSIDE", x.holds(-1, kind), UNKNOWN);
        }
    }

    private static long least(long a, long b, long c) {
        return a + 2000 * b + 4000000 * c;
    }

    private static void promise6Least() {
        TwiceHeard x = new TwiceHeard();
        // marks by salt 0 of items 0 .. 4: 632, 241, 874, 483, 92
        is("6: none", x.holds(0, 2), least(1024, 1024, 1024));
        x.hear(0, 1);
        is("6: one", x.holds(0, 2), least(632, 1024, 1024));
        x.hear(0, 3);
        is("6: two", x.holds(0, 2), least(241, 632, 1024));
        x.hear(0, 31);
        is("6: three of five", x.holds(0, 2), least(92, 241, 483));
        x.node(1, 8 + 16);
        x.hear(0, 2 + 4);
        is("6: put together", x.holds(0, 2), least(92, 241, 483));
        x.hear(0, 8);
        is("6: unlike ones", x.holds(0, 2), least(92, 483, 1024));
        x.hear(0, 16);
        x.hear(1, 1 + 4);
        is("6: put behind", x.holds(0, 2), least(92, 632, 874));
        x.salt(13130);
        x.hear(0, 65535);
        is("6: all marks alike", x.holds(0, 2), least(0, 1024, 1024));
        x.salt(1084);
        is("6: two unlike marks", x.holds(0, 2) / 4000000, 1024);
        x.salt(116);
        is("6: the least there can be", x.holds(0, 2), least(0, 1, 2));
    }

    private static void promise7() {
        TwiceHeard x = new TwiceHeard();
        x.node(0, 1);
        is("7: none", x.guess(0, 1), 0);
        is("7: none", x.guess(0, 2), 0);
        is("7: no RING", x.guess(1, 1), NONE);
        is("7: no RING", x.guess(1, 2), NONE);
        x.hear(0, 1);
        is("7: RANK 0 is not in them", x.guess(0, 1), 1);
        is("7: one", x.guess(0, 2), 1);
        x.hear(0, 2);
        is("7: RANK 0 alone", x.guess(0, 1), 2000 / 773);
        x.hear(0, 6);
        is("7: RANKS 0, 1", x.guess(0, 1), 4000 / 773);
        is("7: two", x.guess(0, 2), 2);
        x.hear(0, 2 + 4 + 16);
        is("7: RANKS 0 to 2", x.guess(0, 1), 8000 / 773);
        is("7: three", x.guess(0, 2), 2048 / 875);
        x.salt(7);
        x.hear(0, 65535);
        is("7: RANKS 0 to 4", x.guess(0, 1), 32000 / 773);
        x.salt(116);
        is("7: marks 0, 1, 2", x.guess(0, 2), 682);
        x.salt(13130);
        is("7: one mark of 16 items", x.guess(0, 2), 1);
        is("7: RANK 7 alone", x.guess(0, 1), 1);
        x.salt(1084);
        is("7: two marks of 16 items", x.guess(0, 2), 2);
        for (int by : new int[] {-1, 0, 3, LOW, HIGH}) {
            is("7: by " + by, x.guess(0, by), OUTSIDE);
            is("7: OUTSIDE ahead of NONE", x.guess(1, by), OUTSIDE);
            is("7: UNKNOWN ahead of OUTSIDE", x.guess(2, by), UNKNOWN);
        }
        is("7: no node", x.guess(-1, 1), UNKNOWN);
        is("7: no node", x.guess(HIGH, 1), UNKNOWN);
    }

    private static void promise8() {
        TwiceHeard x = new TwiceHeard();
        is("8: none", x.off(1), 100000);
        is("8: none", x.off(2), 100000);
        x.node(1, 65535);
        is("8: 20 less 16", x.off(1), 100004);
        is("8: 11 less 16", x.off(2), 99995);
        x.lose(0, 1);
        is("8: 0 less 16", x.off(1), 99984);
        is("8: 0 less 16", x.off(2), 99984);
        x.link(0, 1);
        is("8: without a ring it is not TRUE", x.off(1), 100000);
        for (int by : new int[] {-1, 0, 3, LOW, HIGH}) {
            is("8: by " + by, x.off(by), OUTSIDE);
        }
    }

    private static void promise9() {
        TwiceHeard x = lattice();
        x.lose(4, 1);
        int[][] due = {{5, 3, 1}, {5, 4, 1}, {3, 1, 1}, {3, 2, 1}, {4, 1, 0}, {4, 2, 1}, {1, 0, 1}, {2, 0, 1}};
        for (int k = 0; k < due.length; k++) {
            for (int what = 0; what < 3; what++) {
                is("9: letter(" + k + ", " + what + ")", x.letter(k, what), due[k][what]);
            }
        }
        for (int k : new int[] {-1, 8, 36, LOW, HIGH}) {
            is("9: no letter", x.letter(k, 0), UNKNOWN);
            is("9: UNKNOWN ahead of OUTSIDE", x.letter(k, 3), UNKNOWN);
        }
        for (int what : new int[] {-1, 3, LOW, HIGH}) {
            is("9: what " + what, x.letter(0, what), OUTSIDE);
        }
        x.mode(1);
        int[][] fewer = {{5, 3, 1}, {3, 1, 1}, {4, 1, 0}, {1, 0, 1}, {2, 0, 1}};
        for (int k = 0; k < fewer.length; k++) {
            for (int what = 0; what < 3; what++) {
                is("9: in mode 1 letter(" + k + ", " + what + ")", x.letter(k, what), fewer[k][what]);
            }
        }
        is("9: in mode 1 no more", x.letter(5, 0), UNKNOWN);
        mostLetters();
    }

    /** Four in ring 1, four in ring 2, each linked with all four: 20 letters, as many as nine nodes can send. */
    private static void mostLetters() {
        TwiceHeard x = new TwiceHeard();
        for (int v = 1; v <= 8; v++) {
            x.node(v <= 4 ? 1 : 30, 1);
        }
        is("9: most letters", x.told(8), 20);
        is("9: the last", x.letter(19, 0), 4);
        is("9: COUNT of so many", x.holds(0, 0), 20);
        for (int u = 0; u < 9; u++) {
            for (int v = 0; v < u; v++) {
                if (x.isLost(u, v) == UNKNOWN) {
                    x.link(u, v);
                }
            }
        }
        is("9: all linked with all", x.told(1), 36);
        is("9: one ring", x.told(8), 8);
    }

    private static void promise10() {
        TwiceHeard x = lattice();
        x.lose(3, 1);
        // letter 2 goes from 3 to 1 and is lost, but is sent
        is("10: COUNT", x.sent(2, 0), 2);
        is("10: BITS of items 2, 4", x.sent(2, 1), 6);
        is("10: LEAST of items 2, 4", x.sent(2, 2), least(92, 874, 1024));
        is("10: ALL", x.sent(2, 3), 20);
        is("10: from 1, which got less", x.sent(6, 3), 1 + 8 + 16);
        is("10: from 2", x.sent(7, 3), 2 + 4 + 8 + 16);
        is("10: from 2", x.sent(7, 0), 5);
        for (int k : new int[] {-1, 8, 36, LOW, HIGH}) {
            is("10: no letter", x.sent(k, 0), UNKNOWN);
            is("10: UNKNOWN ahead of OUTSIDE", x.sent(k, 4), UNKNOWN);
        }
        for (int kind : new int[] {-1, 4, LOW, HIGH}) {
            is("10: kind " + kind, x.sent(0, kind), OUTSIDE);
        }
    }

    private static void promise11() {
        TwiceHeard x = new TwiceHeard();
        for (int n = 1; n <= 3; n++) {
            long[] byZ = rowsOneByOne(n);
            for (int z = 0; z <= 8; z++) {
                is("11: rows(" + n + ", " + z + ")", x.rows(n, z), byZ[z]);
            }
        }
        for (int n = 1; n <= 8; n++) {
            long sum = 0;
            for (int z = 0; z <= 8; z++) {
                sum += x.rows(n, z);
            }
            is("11: all rows of " + n, sum, 1L << 7 * n);
        }
        is("11: eight items, a rank each", x.rows(8, 8), 40320L << 21);
        is("11: seven of them have RANKS 0 to 6", x.rows(7, 7), 5040L << 21);
        is("11: n 0", x.rows(0, 0), OUTSIDE);
        is("11: n 9", x.rows(9, 0), OUTSIDE);
        is("11: z -1", x.rows(1, -1), OUTSIDE);
        is("11: z 9", x.rows(1, 9), OUTSIDE);
        is("11: both", x.rows(LOW, HIGH), OUTSIDE);
        is("11: both", x.rows(HIGH, LOW), OUTSIDE);
    }

    /** The 128 ways of an item: way w has as its rank how often w can be halved, 7 at most. */
    private static long[] rowsOneByOne(int n) {
        long[] byZ = new long[9];
        for (int row = 0; row < 1 << 7 * n; row++) {
            int ranks = 0;
            for (int i = 0; i < n; i++) {
                ranks |= 1 << Math.min(7, Integer.numberOfTrailingZeros(row >> 7 * i & 127));
            }
            byZ[Integer.numberOfTrailingZeros(~ranks)]++;
        }
        return byZ;
    }

    private static void promise12() {
        TwiceHeard x = new TwiceHeard();
        is("12: linked with none", x.node(0, 0), 1);
        is("12: linked with two", x.node(3, 65535), 2);
        is("12: both ends", x.at(1, 1), 4);
        is("12: both ends", x.at(0, 1), 4);
        is("12: hears", x.at(2, 3), 65535);
        is("12: not lost", x.isLost(0, 2), 0);
        is("12: itself", x.node(8, 0), UNKNOWN);
        is("12: none such", x.node(512, 0), UNKNOWN);
        is("12: none such", x.node(-1, 0), UNKNOWN);
        is("12: none such", x.node(LOW, 0), UNKNOWN);
        is("12: hears", x.node(1, 65536), OUTSIDE);
        is("12: hears", x.node(1, -1), OUTSIDE);
        is("12: UNKNOWN ahead of OUTSIDE", x.node(8, 65536), UNKNOWN);
        is("12: three as before", x.told(0), 3);
        for (int v = 3; v < 9; v++) {
            is("12: next", x.node(1 << v - 1, 0), v);
        }
        is("12: FULL", x.node(0, 0), FULL);
        is("12: UNKNOWN ahead of FULL", x.node(512, 0), UNKNOWN);
        is("12: OUTSIDE ahead of FULL", x.node(511, 65536), OUTSIDE);
        is("12: a long chain", x.told(5), 7);
    }

    private static void promise13() {
        TwiceHeard x = lattice();
        x.lose(5, 4);
        is("13: left", x.take(), 5);
        is("13: its links went", x.told(1), 6);
        is("13: its losses went", x.told(2), 0);
        is("13: none of 4", x.at(4, 1), 6);
        is("13: it is no more", x.at(5, 0), UNKNOWN);
        is("13: a new one", x.node(16, 0), 5);
        is("13: hears what it says", x.at(5, 3), 0);
        is("13: is linked as it says", x.at(5, 1), 16);
        is("13: not lost", x.isLost(4, 5), 0);
        for (int left = 5; left >= 1; left--) {
            is("13: left", x.take(), left);
        }
        is("13: the MIDDLE stays", x.take(), NOT);
        is("13: the MIDDLE alone", x.told(0), 1);
        is("13: no links", x.told(1), 0);
    }

    private static void promise14() {
        TwiceHeard x = lattice();
        is("14: linked", x.link(5, 0), 1);
        is("14: ring", x.at(5, 0), 1);
        is("14: both ends", x.at(0, 1), 6 + 32);
        is("14: no more", x.link(0, 5), 0);
        is("14: both ends", x.at(5, 1), 24);
        is("14: both ends", x.at(0, 1), 6);
        x.lose(0, 1);
        is("14: a lost one no more", x.link(1, 0), 0);
        is("14: it is not lost either", x.told(2), 0);
        is("14: again", x.link(0, 1), 1);
        is("14: not LOST", x.isLost(0, 1), 0);
        is("14: one twice", x.link(2, 2), UNKNOWN);
        is("14: the MIDDLE twice", x.link(0, 0), UNKNOWN);
        for (int v : new int[] {-1, 6, 32, LOW, HIGH}) {
            is("14: no node", x.link(0, v), UNKNOWN);
            is("14: no node", x.link(v, 0), UNKNOWN);
        }
    }

    private static void promise15() {
        TwiceHeard x = lattice();
        is("15: lost", x.lose(4, 2), 1);
        is("15: is lost", x.isLost(2, 4), 1);
        is("15: one", x.told(2), 1);
        is("15: its letter does not come", x.at(2, 5), 1);
        is("15: no more", x.lose(2, 4), 0);
        is("15: is not lost", x.isLost(4, 2), 0);
        is("15: none", x.told(2), 0);
        is("15: not linked", x.lose(1, 2), UNKNOWN);
        is("15: one twice", x.lose(1, 1), UNKNOWN);
        for (int v : new int[] {-1, 6, 32, LOW, HIGH}) {
            is("15: no node", x.lose(0, v), UNKNOWN);
            is("15: no node", x.lose(v, 0), UNKNOWN);
        }
    }

    private static void promise16() {
        TwiceHeard x = lattice();
        is("16: what it did", x.hear(4, 65535), 8);
        is("16: what it did", x.hear(4, 0), 65535);
        is("16: none", x.at(4, 3), 0);
        is("16: set", x.hear(0, 65536), OUTSIDE);
        is("16: set", x.hear(0, -1), OUTSIDE);
        is("16: set", x.hear(0, LOW), OUTSIDE);
        is("16: no node", x.hear(6, 0), UNKNOWN);
        is("16: no node", x.hear(-1, 0), UNKNOWN);
        is("16: UNKNOWN ahead of OUTSIDE", x.hear(6, -1), UNKNOWN);
    }

    private static void promise17() {
        TwiceHeard x = new TwiceHeard();
        is("17: was", x.salt(65535), 0);
        is("17: was", x.salt(3), 65535);
        is("17: is", x.told(3), 3);
        is("17: mark 7 times 40503", x.mark(0, 0), 7 * 40503 % 65536 / 64);
        is("17: bounds", x.salt(65536), OUTSIDE);
        is("17: bounds", x.salt(-1), OUTSIDE);
        is("17: bounds", x.salt(LOW), OUTSIDE);
        is("17: is", x.told(3), 3);
    }

    private static void promise18() {
        TwiceHeard x = lattice();
        is("18: was", x.mode(1), 0);
        is("18: was", x.mode(1), 1);
        is("18: by one way", x.at(5, 4), 1);
        is("18: was", x.mode(0), 1);
        is("18: by all", x.at(5, 4), 4);
        is("18: bounds", x.mode(2), OUTSIDE);
        is("18: bounds", x.mode(-1), OUTSIDE);
        is("18: is", x.told(4), 0);
    }

    private static void promise19() {
        TwiceHeard x = new TwiceHeard();
        // seed 0: 12345 (draw of 1: 0), then 12345 * 1103515245 + 12345 left over by 2 to the 31
        long second = (12345L * 1103515245L + 12345L) % (1L << 31);
        is("19: TRUE", x.drift(1), 1);
        is("19: two draws, of the nodes first", x.told(13), second);
        is("19: the item", x.at(0, 3), 1 << (int) (second / 65536 % 16));
        x.seed(0);
        is("19: if it did, no more", x.drift(1), 0);
        is("19: none", x.at(0, 3), 0);
        is("19: each is a deed", x.told(12), 2);
        TwiceHeard y = lattice();
        TwiceHeard z = lattice();
        y.seed(99);
        z.seed(99);
        int last = 0;
        for (int i = 0; i < 12; i++) {
            last = z.drift(1);
        }
        is("19: twelve are twelve times one", y.drift(12), last);
        for (int v = 0; v < 6; v++) {
            is("19: hears", y.at(v, 3), z.at(v, 3));
        }
        is("19: the seed", y.told(13), z.told(13));
        for (int n : new int[] {0, -1, 13, LOW, HIGH}) {
            is("19: bounds", y.drift(n), OUTSIDE);
        }
        is("19: the seed is as before", y.told(13), z.told(13));
    }

    private static void promise20() {
        TwiceHeard x = lattice();
        is("20: then", x.undo(2), 3);
        is("20: as ahead", x.told(0), 4);
        is("20: links", x.told(1), 4);
        is("20: not so many", x.undo(4), NOT);
        is("20: all", x.undo(3), 0);
        is("20: the MIDDLE alone", x.told(0), 1);
        is("20: none", x.undo(1), NOT);
        for (int salt = 1; salt <= 20; salt++) {
            x.salt(salt);
        }
        is("20: 16 at most", x.told(12), 16);
        is("20: bounds", x.undo(17), OUTSIDE);
        is("20: bounds", x.undo(0), OUTSIDE);
        is("20: bounds", x.undo(-1), OUTSIDE);
        is("20: one", x.undo(1), 15);
        is("20: as ahead of it", x.told(3), 19);
        is("20: not so many", x.undo(16), NOT);
        is("20: fifteen", x.undo(15), 0);
        is("20: as ahead of the oldest", x.told(3), 4);
        x.salt(50);
        is("20: and on", x.undo(1), 0);
        is("20: as ahead", x.told(3), 4);
        x.seed(5);
        x.write(0, 3);
        is("20: seed, book are no deeds", x.told(12), 0);
        x.drift(12);
        int seed = x.told(13);
        is("20: drift is twelve deeds", x.undo(12), 0);
        is("20: THE SEED stays", x.told(13), seed);
        is("20: THE BOOK stays", x.told(10), 1);
        is("20: nothing heard", x.at(0, 3), 0);
        is("20: OUTSIDE ahead of NOT", x.undo(17), OUTSIDE);
    }

    private static void promise20EachDeed() {
        TwiceHeard x = lattice();
        x.keep(0);
        is("20: node", x.node(1, 1), 6);
        x.lose(0, 6);
        x.hear(6, 7);
        is("20: take", x.take(), 6);
        is("20: undone", x.undo(1), 3);
        is("20: it is there again", x.at(6, 3), 7);
        is("20: linked", x.at(0, 1), 6 + 64);
        is("20: lost", x.isLost(6, 0), 1);
        is("20: hear undone", x.undo(1), 2);
        is("20: as ahead", x.at(6, 3), 1);
        is("20: lose undone", x.undo(1), 1);
        is("20: as ahead", x.isLost(6, 0), 0);
        is("20: node undone", x.undo(1), 0);
        is("20: as ahead", x.at(6, 0), UNKNOWN);
        x.lose(0, 1);
        x.link(0, 1);
        x.undo(1);
        is("20: link undone", x.isLost(0, 1), 1);
        x.mode(1);
        x.undo(1);
        is("20: mode undone", x.told(4), 0);
        x.salt(8);
        x.undo(1);
        is("20: salt undone", x.told(3), 0);
        x.hear(0, 0);
        x.salt(0);
        x.mode(0);
        is("20: what changes nothing is a deed, too", x.told(12), 4);
    }

    private static void promise21() {
        TwiceHeard x = new TwiceHeard();
        x.node(0, 0);
        is("21: one", x.write(0, 0), 1);
        is("21: any guess", x.write(0, LOW), 2);
        is("21: any guess", x.write(0, HIGH), 3);
        is("21: a node without a ring", x.write(1, 0), 4);
        is("21: the first that is otherwise", x.told(11), 1);
        is("21: no node", x.write(2, 0), UNKNOWN);
        is("21: no node", x.write(-1, 0), UNKNOWN);
        for (int i = 5; i <= 20; i++) {
            is("21: how many", x.write(0, 0), i);
        }
        is("21: FULL", x.write(0, 0), FULL);
        is("21: UNKNOWN ahead of FULL", x.write(2, 0), UNKNOWN);
        is("21: twenty", x.told(10), 20);
        is("21: no deed", x.told(12), 1);
    }

    private static void promise22() {
        TwiceHeard x = new TwiceHeard();
        is("22: none", x.tear(), 0);
        x.write(0, 5);
        x.write(0, 5);
        is("22: had", x.tear(), 2);
        is("22: none", x.told(10), 0);
        is("22: none is wrong", x.told(11), NONE);
        is("22: a new one", x.write(0, 0), 1);
        is("22: judged", x.told(11), NONE);
    }

    private static void promise23() {
        TwiceHeard x = new TwiceHeard();
        is("23: was", x.seed(2147483647), 0);
        is("23: was", x.seed(7), 2147483647);
        is("23: bounds", x.seed(-1), OUTSIDE);
        is("23: bounds", x.seed(LOW), OUTSIDE);
        is("23: is", x.told(13), 7);
        x.seed(2147483647);
        x.drift(1);
        long one = (2147483647L * 1103515245L + 12345L) % (1L << 31);
        long two = java.math.BigInteger.valueOf(one).multiply(java.math.BigInteger.valueOf(1103515245L))
            .add(java.math.BigInteger.valueOf(12345L)).mod(java.math.BigInteger.valueOf(1L << 31)).longValue();
        is("23: draws go on from it", x.told(13), two);
    }

    private static void promise24() {
        TwiceHeard x = lattice();
        x.write(0, 0);
        is("24: kept", x.keep(1), 1);
        is("24: nothing can be undone", x.told(12), 0);
        is("24: nothing can be undone", x.undo(1), NOT);
        is("24: what is so stays", x.told(0), 6);
        is("24: the book stays", x.told(10), 1);
        is("24: no such", x.keep(2), UNKNOWN);
        is("24: no such", x.keep(-1), UNKNOWN);
        is("24: no such", x.keep(LOW), UNKNOWN);
        is("24: 0 was not kept", x.goBack(0), NOT);
        x.take();
        is("24: kept anew", x.keep(1), 1);
        x.take();
        is("24: back", x.goBack(1), 1);
        is("24: the later one", x.told(0), 5);
        x.salt(4);
        is("24: refused", x.keep(2), UNKNOWN);
        is("24: can be undone as before", x.told(12), 1);
    }

    private static void promise25() {
        TwiceHeard x = lattice();
        x.salt(321);
        x.mode(1);
        x.lose(0, 2);
        x.seed(1000);
        x.keep(0);
        x.take();
        x.salt(1);
        x.mode(0);
        x.lose(0, 2);
        x.hear(1, 99);
        x.link(0, 1);
        x.seed(5);
        x.keep(1);
        x.write(0, 0);
        x.drift(3);
        is("25: not kept is NOT", new TwiceHeard().goBack(1), NOT);
        is("25: no such", x.goBack(2), UNKNOWN);
        is("25: no such", x.goBack(-1), UNKNOWN);
        is("25: can be undone as before", x.told(12), 3);
        is("25: back", x.goBack(0), 1);
        int[] due = {6, 8, 1, 321, 1, 3, 1 + 2 + 8 + 16 + 32, 5, 5, 1, 1, 0, 0, 1000};
        for (int what = 0; what < due.length; what++) {
            is("25: told(" + what + ")", x.told(what), what == 11 ? x.told(11) : due[what]);
        }
        is("25: hears", x.at(1, 3), 1);
        is("25: linked", x.at(0, 1), 6);
        is("25: lost", x.isLost(0, 2), 1);
        is("25: not undone", x.undo(1), NOT);
        x.hear(1, 5);
        x.take();
        is("25: again, the image is as it was", x.goBack(0), 1);
        is("25: hears", x.at(1, 3), 1);
        is("25: the other", x.goBack(1), 1);
        is("25: N", x.told(0), 5);
        is("25: hears", x.at(1, 3), 99);
        is("25: seed", x.told(13), 5);
    }

    /** After a run of refused calls all that can be asked is as it was. */
    private static void refusedChangesNothing() {
        TwiceHeard x = lattice();
        x.seed(3);
        x.write(1, 1);
        long before = imprint(x);
        x.node(64, 0);
        x.node(1, -1);
        x.link(0, 6);
        x.link(1, 1);
        x.lose(0, 3);
        x.hear(6, 1);
        x.hear(0, 65536);
        x.salt(65536);
        x.mode(2);
        x.drift(13);
        x.undo(17);
        x.undo(6);
        x.write(6, 0);
        x.seed(-1);
        x.keep(2);
        x.goBack(0);
        x.goBack(2);
        is("refused changes nothing", imprint(x), before);
    }

    private static long imprint(TwiceHeard x) {
        long all = 17;
        for (int what = 0; what < 14; what++) {
            all = all * 31 + x.told(what);
        }
        for (int v = 0; v < 9; v++) {
            for (int what = 0; what < 6; what++) {
                all = all * 31 + x.at(v, what);
            }
        }
        return all;
    }
}
