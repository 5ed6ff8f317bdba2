public final class SubBorrow {
    private static final int WORD_COUNT = 24;
    private static final int SHORT_LAG = 10;
    private static final int WORD_RANGE = 16777216;
    private static final long WORD_MASK = 16777215L;

    private static final int SEED_FOR_ZERO = 19780503;
    private static final long UNSIGNED_MASK = 4294967295L;
    private static final long SEED_MODULUS = 2147483563L;
    private static final long SEED_FACTOR = 40014L;

    private static final int SKIP_LIMIT = 200;
    private static final int SKIP_NEGATIVE = -1;
    private static final int SKIP_TOO_MANY = -2;

    private final int[] words = new int[WORD_COUNT];
    private int borrow;
    private int cursor;

    public SubBorrow() {
        fillFrom(SEED_FOR_ZERO);
    }

    public int seed(int s) {
        if (s == 0) {
            fillFrom(SEED_FOR_ZERO);
            return 1;
        }
        fillFrom(s);
        return 0;
    }

    public int next() {
        return step();
    }

    public int skip(int n) {
        if (n < 0) {
            return SKIP_NEGATIVE;
        }
        if (n > SKIP_LIMIT) {
            return SKIP_TOO_MANY;
        }
        for (int i = 0; i < n; i++) {
            step();
        }
        return n;
    }

    public int status() {
        return cursor * 2 + borrow;
    }

    private void fillFrom(int s) {
        long e = startingValue(s);
        for (int k = 0; k < WORD_COUNT; k++) {
            e = e * SEED_FACTOR % SEED_MODULUS;
            words[k] = (int) (e & WORD_MASK);
        }
        // An all-zero state without a borrow would answer 0 for ever.
        borrow = words[WORD_COUNT - 1] == 0 ? 1 : 0;
        cursor = 0;
    }

    private static long startingValue(int s) {
        long e = (s & UNSIGNED_MASK) % SEED_MODULUS;
        // From 0 the multiplications would never leave 0.
        return e == 0 ? 1 : e;
    }

    private int step() {
        int lagged = laggedIndex(cursor);
        int d = words[lagged] - words[cursor] - borrow;
        if (d < 0) {
            d += WORD_RANGE;
            borrow = 1;
        } else {
            borrow = 0;
        }
        words[cursor] = d;
        cursor = cursor == WORD_COUNT - 1 ? 0 : cursor + 1;
        return d;
    }

    private static int laggedIndex(int p) {
        return p < SHORT_LAG ? p - SHORT_LAG + WORD_COUNT : p - SHORT_LAG;
    }
}
