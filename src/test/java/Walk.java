/**
 * An object drawn from by next() alone, beside the words it is due to hold: set by the seeding of the document, then each
 * answer taken as the word it produced. So a step can be checked without the step before it being right.
 */
final class Walk {
    final SubBorrow object = new SubBorrow();
    final int[] words = new int[State.WORDS];
    private int draws = 0;

    /** s is from 1 to 2147483562, its own starting value. */
    Walk(int s) {
        object.seed(s);
        long e = s;
        for (int k = 0; k < State.WORDS; k++) {
            e = e * 40014 % SeedOf.MODULUS;
            words[k] = (int) (e & State.TOP);
        }
    }

    Walk(int s, int draws) {
        this(s);
        for (int i = 0; i < draws; i++) {
            next();
        }
    }

    int cursor() {
        return draws % State.WORDS;
    }

    int borrow() {
        return object.status() & 1;
    }

    /** The d of the document before any growth, with word j as given. */
    int difference(int j) {
        return words[j] - words[cursor()] - borrow();
    }

    int difference() {
        int p = cursor();
        return difference(p < 10 ? p + 14 : p - 10);
    }

    int next() {
        int answer = object.next();
        words[cursor()] = answer;
        draws++;
        return answer;
    }

    @Override
    public String toString() {
        return "after " + draws + " draws (cursor " + cursor() + ")";
    }
}
