/** Promise 4: skip. */
public final class SkipTest {
    private static final int[] NEGATIVE = {-1, -2, -23, -24, -25, -200, -201, -65536, -2147483647, -2147483648};
    private static final int[] TOO_MANY = {201, 202, 224, 255, 256, 257, 400, 456, 65536, 2147483646, 2147483647};

    public static void main(String[] args) {
        Check.sentence("It accepts every `int`, and the following cases are decided in this order:",
                SkipTest::acceptsEveryInt);
        Check.sentence("If `n` is negative (down to and including -2147483648), the answer is -1 and everything is left"
                + " unchanged.", SkipTest::negative);
        Check.sentence("If `n` is above 200 (201 up to and including 2147483647), the answer is -2 and everything is left"
                + " unchanged.", SkipTest::above200);
        Check.sentence("Otherwise (0 to 200, both included), the state changes exactly as by `n` calls of `next()` with their"
                + " answers thrown away, and the answer is `n`.", SkipTest::carriedOut);
        Check.sentence("`skip(0)` answers 0 and changes nothing.", SkipTest::zero);
        Check.sentence("`skip(200)` is carried out in full and answers 200.", SkipTest::twoHundred);
        Check.sentence("A refused call leaves every word, the borrow and the cursor as they were; no part of the draws is"
                + " made.", SkipTest::refusedCallsMakeNoDraw);
        Check.sentence("Whether a call is refused depends on `n` alone, not on the state.", SkipTest::refusedByTheCountAlone);
        Check.sentence("The limit of 200 holds for each call by itself; earlier calls of `skip` do not count towards it.",
                SkipTest::limitHoldsForEachCall);
        Check.finish();
    }

    private static void acceptsEveryInt() {
        SubBorrow x = new SubBorrow();
        Model model = new Model();
        int r = 1;
        for (int i = 0; i < 20000; i++) {
            r = r * 1664525 + 1013904223;
            int n = (r & 1) == 0 ? r : (r >>> 8) % 300 - 50;
            switch (r >>> 28) {
                case 0 -> Check.due("mixed seed(" + n + ")", x.seed(n), model.seed(n));
                case 1, 2 -> Check.due("mixed status()", x.status(), model.status());
                case 3, 4, 5, 6 -> Check.due("mixed next()", x.next(), model.next());
                default -> Check.due("mixed skip(" + n + ")", x.skip(n), model.skip(n));
            }
        }
    }

    private static void negative() {
        SubBorrow x = Check.drawn(31, 5);
        for (int n = -1; n >= -300; n--) {
            Check.due("skip(" + n + ")", x.skip(n), -1);
        }
        for (int n : NEGATIVE) {
            Check.due("skip(" + n + ")", x.skip(n), -1);
        }
        for (int bit = 0; bit < 32; bit++) {
            Check.due("skip(" + (-1 << bit) + ")", x.skip(-1 << bit), -1);
        }
        Check.sameFuture("after skip of negative counts", x, Check.drawn(31, 5));
    }

    private static void above200() {
        SubBorrow x = Check.drawn(32, 6);
        for (int n = 201; n <= 600; n++) {
            Check.due("skip(" + n + ")", x.skip(n), -2);
        }
        for (int n : TOO_MANY) {
            Check.due("skip(" + n + ")", x.skip(n), -2);
        }
        for (int bit = 8; bit < 31; bit++) {
            Check.due("skip(" + (1 << bit) + ")", x.skip(1 << bit), -2);
        }
        Check.sameFuture("after skip of counts above 200", x, Check.drawn(32, 6));
    }

    private static void carriedOut() {
        for (int n = 0; n <= 200; n++) {
            for (int before = 0; before <= 25; before += 5) {
                SubBorrow skipped = Check.drawn(n + 1, before);
                String what = "seed(" + (n + 1) + "), " + before + " draws, skip(" + n + ")";
                Check.due(what, skipped.skip(n), n);
                Check.sameFuture(what, skipped, Check.drawn(n + 1, before + n));
            }
        }
    }

    private static void zero() {
        for (int before = 0; before <= 50; before++) {
            SubBorrow x = Check.drawn(33, before);
            Check.due(before + " draws, skip(0)", x.skip(0), 0);
            Check.sameFuture(before + " draws, skip(0)", x, Check.drawn(33, before));
        }
        SubBorrow again = Check.drawn(33, 9);
        for (int i = 0; i < 1000; i++) {
            Check.due("skip(0) number " + (i + 1), again.skip(0), 0);
        }
        Check.sameFuture("skip(0) a thousand times", again, Check.drawn(33, 9));
    }

    private static void twoHundred() {
        for (int before = 0; before <= 50; before++) {
            SubBorrow x = Check.drawn(34, before);
            Check.due(before + " draws, skip(200)", x.skip(200), 200);
            Check.sameFuture(before + " draws, skip(200)", x, Check.drawn(34, before + 200));
        }
    }

    /** In states with every cursor and both borrows. */
    private static void refusedCallsMakeNoDraw() {
        boolean[] seen = new boolean[48];
        for (int before = 0; before < 300; before++) {
            seen[Check.drawn(35, before).status()] = true;
            for (int n : NEGATIVE) {
                refused(before, n, -1);
            }
            for (int n : TOO_MANY) {
                refused(before, n, -2);
            }
        }
        everyStatusSeen(seen);
    }

    private static void refused(int before, int n, int code) {
        SubBorrow x = Check.drawn(35, before);
        String what = before + " draws, skip(" + n + ")";
        Check.due(what, x.skip(n), code);
        Check.sameFuture(what, x, Check.drawn(35, before));
    }

    /** In states with every cursor and both borrows, the state that a seed with a borrow leaves among them. */
    private static void refusedByTheCountAlone() {
        boolean[] seen = new boolean[48];
        for (int before = 0; before < 300; before++) {
            seen[Check.drawn(1604714404, before).status()] = true;
            for (int n : new int[] {-1, 0, 1, 23, 24, 199, 200, 201}) {
                int due = n < 0 ? -1 : n > 200 ? -2 : n;
                Check.due(before + " draws, skip(" + n + ")", Check.drawn(1604714404, before).skip(n), due);
            }
        }
        everyStatusSeen(seen);
    }

    private static void everyStatusSeen(boolean[] seen) {
        for (int status = 0; status < 48; status++) {
            Check.holds("a state with status() " + status + " was among them", seen[status]);
        }
    }

    private static void limitHoldsForEachCall() {
        SubBorrow x = new SubBorrow();
        for (int i = 1; i <= 100; i++) {
            Check.due("skip(200) number " + i, x.skip(200), 200);
        }
        Check.sameFuture("skip(200) a hundred times", x, Check.drawn(0, 20000));
        SubBorrow y = new SubBorrow();
        for (int n = 0; n <= 200; n++) {
            Check.due("skip(" + n + ") after all the smaller counts", y.skip(n), n);
            Check.due("skip(201) between them", y.skip(201), -2);
            Check.due("skip(-1) between them", y.skip(-1), -1);
        }
        Check.sameFuture("skip of 0 to 200 one after another", y, Check.drawn(0, 20100));
    }
}
