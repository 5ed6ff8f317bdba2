import java.lang.reflect.Field;

/** Promise 3: next. */
public final class NextTest {
    private static final int TOP = 16777215;

    public static void main(String[] args) throws ReflectiveOperationException {
        ordinaryDraws();
        longRun();
        equalWordsFromSeeds();
        edgesAtEveryCursor();
        Check.finish();
    }

    private static void ordinaryDraws() {
        SubBorrow x = Check.seeded(7);
        Check.due("seed(7), next() number 1", x.next(), 11770281);
        Check.due("seed(7), next() number 2", x.next(), 9409582);
        Check.due("seed(7), next() number 3", x.next(), 3139026);
        Check.due("seed(7), next() number 4", x.next(), 11336948);
    }

    private static void longRun() {
        SubBorrow x = new SubBorrow();
        Model model = new Model();
        for (int i = 1; i <= 100000; i++) {
            int got = x.next();
            Check.due("next() number " + i, got, model.next());
            Check.holds("next() number " + i + " is in range", got >= 0 && got <= TOP);
            Check.due("status() after next() number " + i, x.status(), model.status());
        }
    }

    /** Seeds, found by search, in whose early draws word j equals word p. */
    private static void equalWordsFromSeeds() {
        equalWords(236788, 27, 0, 0);
        equalWords(2124009, 21, 0, 0);
        equalWords(2373653, 23, 0, 0);
        equalWords(2047611, 33, 1, TOP);
        equalWords(3836002, 34, 1, TOP);
    }

    private static void equalWords(int s, int draw, int borrow, int want) {
        SubBorrow x = Check.seeded(s);
        x.skip(draw - 1);
        String what = "seed(" + s + "), skip(" + (draw - 1) + ")";
        Check.due(what + ", status()", x.status(), (draw - 1) % 24 * 2 + borrow);
        Check.due(what + ", next()", x.next(), want);
        Check.due(what + ", next(), status()", x.status(), draw % 24 * 2 + borrow);
    }

    private static void edgesAtEveryCursor() throws ReflectiveOperationException {
        for (int p = 0; p < 24; p++) {
            step(p, 0, 0, 0, 0, 0);
            step(p, 5, 5, 0, 0, 0);
            step(p, TOP, TOP, 0, 0, 0);
            step(p, 0, 0, 1, TOP, 1);
            step(p, 5, 5, 1, TOP, 1);
            step(p, TOP, TOP, 1, TOP, 1);
            step(p, 0, TOP, 1, 0, 1);
            step(p, 0, TOP, 0, 1, 1);
            step(p, TOP, 0, 0, TOP, 0);
            step(p, TOP, 0, 1, TOP - 1, 0);
            step(p, 6, 5, 1, 0, 0);
            step(p, 6, 5, 0, 1, 0);
            step(p, 5, 6, 0, TOP, 1);
            step(p, 5, 6, 1, TOP - 1, 1);
        }
    }

    /**
     * One draw from a state put in by hand. By chance, the rarest of these states (two given words and a borrow)
     * comes once in some 2 to the 49th draws, so no seed was searched for; this reaches for the private fields
     * instead; rename them here too.
     */
    private static void step(int p, int lagged, int own, int borrow, int answer, int borrowAfter)
            throws ReflectiveOperationException {
        SubBorrow x = new SubBorrow();
        int[] words = (int[]) field("words").get(x);
        int j = p < 10 ? p + 14 : p - 10;
        for (int k = 0; k < 24; k++) {
            words[k] = 1000 + k;
        }
        words[j] = lagged;
        words[p] = own;
        field("borrow").setInt(x, borrow);
        field("cursor").setInt(x, p);
        int[] want = words.clone();
        want[p] = answer;

        String what = "cursor " + p + ", word j " + lagged + ", word p " + own + ", borrow " + borrow;
        Check.due(what + ": status()", x.status(), p * 2 + borrow);
        Check.due(what + ": next()", x.next(), answer);
        Check.due(what + ": status() after next()", x.status(), (p + 1) % 24 * 2 + borrowAfter);
        for (int k = 0; k < 24; k++) {
            Check.due(what + ": word " + k + " after next()", words[k], want[k]);
        }
    }

    private static Field field(String name) throws ReflectiveOperationException {
        Field f = SubBorrow.class.getDeclaredField(name);
        f.setAccessible(true);
        return f;
    }
}
