/** Nets that several tests begin with, as rows. */
final class Nets {
    /** 1, 2 in ring 1; 3, 4 in ring 2, each linked with both; 5 in ring 3, linked with both of these. */
    static final String LATTICE = "node(1, 1); node(1, 2); node(6, 4); node(6, 8); node(24, 16)\n";
    /** Node v is linked with v less 1 alone, and hears item v less 1. */
    static final String CHAIN =
        "node(1, 1); node(2, 2); node(4, 4); node(8, 8); node(16, 16); node(32, 32); node(64, 64); node(128, 128)\n";
    /** All nine nodes linked with all. */
    static final String ALL_LINKED =
        "node(1, 1); node(3, 1); node(7, 1); node(15, 1); node(31, 1); node(63, 1); node(127, 1); node(255, 1)\n";
    /** Four in ring 1, four in ring 2, each linked with all four: as many letters as nine nodes can send. */
    static final String MOST_LETTERS = "4 * node(1, 1); 4 * node(30, 1)\n";

    private Nets() {
    }
}
