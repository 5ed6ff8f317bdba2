/** The state of an object, worked out from its answers alone, for the document lets nobody read the words. */
final class State {
    static final int WORDS = 24;
    static final int TOP = 16777215;

    final int[] words = new int[WORDS];
    final int borrow;
    final int cursor;

    /**
     * Draws 24 times from x, so it uses x up. With x(0) to x(23) the words in the order in which the cursor comes to
     * them, draw i is x(24 + i) = x(14 + i) - x(i) - borrow; solved for x(i), from the last draw back to the first.
     */
    State(SubBorrow x) {
        int status = x.status();
        borrow = status & 1;
        cursor = status >> 1;
        int[] sequence = new int[2 * WORDS];
        int[] borrows = new int[WORDS];
        for (int i = 0; i < WORDS; i++) {
            borrows[i] = x.status() & 1;
            sequence[WORDS + i] = x.next();
        }
        for (int i = WORDS - 1; i >= 0; i--) {
            sequence[i] = sequence[14 + i] - sequence[WORDS + i] - borrows[i] & TOP;
        }
        for (int i = 0; i < WORDS; i++) {
            words[(cursor + i) % WORDS] = sequence[i];
        }
    }
}
