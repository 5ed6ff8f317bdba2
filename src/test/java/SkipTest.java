/** Promise 4: skip. */
public final class SkipTest {
    private static final int[] NEGATIVE = {-1, -2, -24, -200, -201, -2147483647, -2147483648};
    private static final int[] TOO_MANY = {201, 202, 224, 256, 400, 65536, 2147483646, 2147483647};

    public static void main(String[] args) {
        everyCountThatIsCarriedOut();
        refusals();
        zeroChangesNothing();
        limitHoldsForEachCallAlone();
        mixedCallsAgainstTheModel();
        Check.finish();
    }

    private static void everyCountThatIsCarriedOut() {
        for (int n = 0; n <= 200; n++) {
            for (int before = 0; before <= 25; before += 5) {
                SubBorrow skipped = Check.seeded(n + 1);
                SubBorrow drawn = Check.seeded(n + 1);
                draw(skipped, before);
                draw(drawn, before + n);
                String what = before + " draws, skip(" + n + ")";
                Check.due(what, skipped.skip(n), n);
                Check.sameFuture(what, skipped, drawn);
            }
        }
    }

    private static void refusals() {
        for (int before = 0; before <= 48; before++) {
            for (int n : NEGATIVE) {
                refused(before, n, -1);
            }
            for (int n : TOO_MANY) {
                refused(before, n, -2);
            }
        }
    }

    private static void refused(int before, int n, int code) {
        SubBorrow x = new SubBorrow();
        SubBorrow untouched = new SubBorrow();
        draw(x, before);
        draw(untouched, before);
        String what = before + " draws, skip(" + n + ")";
        Check.due(what, x.skip(n), code);
        Check.due(what + " again", x.skip(n), code);
        Check.sameFuture(what, x, untouched);
    }

    private static void zeroChangesNothing() {
        SubBorrow x = Check.seeded(31);
        SubBorrow untouched = Check.seeded(31);
        for (int i = 0; i < 50; i++) {
            Check.due("skip(0) after " + i + " draws", x.skip(0), 0);
            Check.due("next() after skip(0)", x.next(), untouched.next());
            Check.due("status() after skip(0)", x.status(), untouched.status());
        }
    }

    private static void limitHoldsForEachCallAlone() {
        SubBorrow x = new SubBorrow();
        SubBorrow drawn = new SubBorrow();
        for (int i = 0; i < 100; i++) {
            Check.due("skip(200) number " + (i + 1), x.skip(200), 200);
            Check.due("skip(201) after it", x.skip(201), -2);
            Check.due("skip(-1) after it", x.skip(-1), -1);
        }
        draw(drawn, 20000);
        Check.sameFuture("skip(200) a hundred times", x, drawn);
    }

    private static void mixedCallsAgainstTheModel() {
        SubBorrow x = new SubBorrow();
        Model model = new Model();
        int r = 1;
        for (int i = 0; i < 20000; i++) {
            r = r * 1664525 + 1013904223;
            int argument = (r >>> 8) % 300 - 50;
            switch (r >>> 28) {
                case 0 -> Check.due("mixed seed(" + argument + ")", x.seed(argument), model.seed(argument));
                case 1, 2, 3, 4, 5 -> Check.due("mixed skip(" + argument + ")", x.skip(argument), model.skip(argument));
                case 6, 7 -> Check.due("mixed status()", x.status(), model.status());
                default -> Check.due("mixed next()", x.next(), model.next());
            }
        }
    }

    private static void draw(SubBorrow x, int count) {
        for (int i = 0; i < count; i++) {
            x.next();
        }
    }
}
