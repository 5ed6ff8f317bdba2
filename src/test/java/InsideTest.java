import java.lang.reflect.Field;

/**
 * Promise 3 at every cursor from states that calls meet too rarely: two given words and a borrow come together by chance
 * once in some 2 to the 49th draws. This test sets the private fields words, borrow and cursor; if they are renamed, rename
 * them here too.
 */
public final class InsideTest {
    private static final int TOP = State.TOP;

    public static void main(String[] args) {
        Check.sentence("If word j is 0, word p is 16777215 and borrow is 1, then d is first -16777216; the answer is 0 and"
                + " borrow becomes 1. (at every cursor)", () -> atEveryCursor(0, TOP, 1, 0, 1));
        Check.sentence("If word j equals word p and borrow is 0, the answer is 0 and borrow becomes 0. (least, greatest and"
                + " middle words)", InsideTest::equalWordsNoBorrow);
        Check.sentence("If word j equals word p and borrow is 1, the answer is 16777215 and borrow becomes 1. (least,"
                + " greatest and middle words)", InsideTest::equalWordsBorrow);
        Check.sentence("The answer is d, after any growth, and is always in the range 0 to 16777215. (the greatest and the"
                + " least differences)", InsideTest::widestDifferences);
        Check.finish();
    }

    private static void equalWordsNoBorrow() throws ReflectiveOperationException {
        for (int word : new int[] {0, 1, 5, 8388608, TOP - 1, TOP}) {
            atEveryCursor(word, word, 0, 0, 0);
        }
    }

    private static void equalWordsBorrow() throws ReflectiveOperationException {
        for (int word : new int[] {0, 1, 5, 8388608, TOP - 1, TOP}) {
            atEveryCursor(word, word, 1, TOP, 1);
        }
    }

    private static void widestDifferences() throws ReflectiveOperationException {
        atEveryCursor(0, TOP, 0, 1, 1);
        atEveryCursor(1, TOP, 1, 1, 1);
        atEveryCursor(0, TOP - 1, 1, 1, 1);
        atEveryCursor(TOP, 0, 0, TOP, 0);
        atEveryCursor(TOP, 0, 1, TOP - 1, 0);
        atEveryCursor(0, 1, 0, TOP, 1);
        atEveryCursor(0, 1, 1, TOP - 1, 1);
        atEveryCursor(1, 0, 0, 1, 0);
        atEveryCursor(1, 0, 1, 0, 0);
        atEveryCursor(TOP, TOP - 1, 1, 0, 0);
        atEveryCursor(TOP - 1, TOP, 0, TOP, 1);
    }

    private static void atEveryCursor(int lagged, int own, int borrow, int answer, int borrowAfter)
            throws ReflectiveOperationException {
        for (int p = 0; p < State.WORDS; p++) {
            step(p, lagged, own, borrow, answer, borrowAfter);
        }
    }

    private static void step(int p, int lagged, int own, int borrow, int answer, int borrowAfter)
            throws ReflectiveOperationException {
        SubBorrow x = new SubBorrow();
        int[] words = (int[]) field("words").get(x);
        int j = p < 10 ? p + 14 : p - 10;
        for (int k = 0; k < State.WORDS; k++) {
            words[k] = 1000 + k;
        }
        words[j] = lagged;
        words[p] = own;
        field("borrow").setInt(x, borrow);
        field("cursor").setInt(x, p);
        int[] want = words.clone();
        want[p] = answer;

        String what = "cursor " + p + ", word j " + lagged + ", word p " + own + ", borrow " + borrow;
        Check.due(what + ": status()", x.status(), p * 2 + borrow);
        Check.due(what + ": next()", x.next(), answer);
        Check.due(what + ": status() after next()", x.status(), (p + 1) % State.WORDS * 2 + borrowAfter);
        for (int k = 0; k < State.WORDS; k++) {
            Check.due(what + ": word " + k + " after next()", words[k], want[k]);
        }
    }

    private static Field field(String name) throws ReflectiveOperationException {
        Field f = SubBorrow.class.getDeclaredField(name);
        f.setAccessible(true);
        return f;
    }
}
