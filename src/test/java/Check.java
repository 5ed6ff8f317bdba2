/** What the tests share: compares answers, prints the wrong ones, and ends with exit code 1 if there was one. */
final class Check {
    /** Three times round the words; the borrow and the first 24 draws alone already tell the whole state. */
    static final int FUTURE = 72;

    /** Enough to see what is wrong; a fault that makes calls slow could otherwise hold a test up for hours. */
    private static final int WRONG_PER_SENTENCE = 5;

    private static int sentences = 0;
    private static int broken = 0;
    private static int checked = 0;
    private static int wrong = 0;

    interface Test {
        void run() throws Exception;
    }

    private static final class Enough extends RuntimeException {
        private static final long serialVersionUID = 1L;
    }

    private Check() {
    }

    /** Runs the test of one sentence of the document, and names the sentence if the test finds it broken. */
    static void sentence(String sentence, Test test) {
        sentences++;
        int checkedBefore = checked;
        wrong = 0;
        try {
            test.run();
            holds("the test checked something", checked > checkedBefore);
        } catch (Enough enough) {
            System.out.println("  and so on");
        } catch (Throwable thrown) {
            wrong++;
            System.out.println("  threw " + thrown);
        }
        if (wrong != 0) {
            broken++;
            System.out.println("BROKEN: " + sentence);
        }
    }

    static void due(String what, long got, long want) {
        checked++;
        if (got != want) {
            complain(what + " answered " + got + ", due is " + want);
        }
    }

    static void holds(String what, boolean held) {
        checked++;
        if (!held) {
            complain("does not hold: " + what);
        }
    }

    /** Draws from both, so it uses them up. */
    static void sameFuture(String what, SubBorrow got, SubBorrow want) {
        due(what + ": status()", got.status(), want.status());
        for (int i = 1; i <= FUTURE; i++) {
            due(what + ": next() number " + i, got.next(), want.next());
            due(what + ": status() after next() number " + i, got.status(), want.status());
        }
    }

    static void sameFuture(String what, SubBorrow got, Model want) {
        due(what + ": status()", got.status(), want.status());
        for (int i = 1; i <= FUTURE; i++) {
            due(what + ": next() number " + i, got.next(), want.next());
            due(what + ": status() after next() number " + i, got.status(), want.status());
        }
    }

    static SubBorrow seeded(int s) {
        SubBorrow x = new SubBorrow();
        x.seed(s);
        return x;
    }

    /** Draws by next() alone, so that a fault of skip does not show in the tests of the other promises. */
    static SubBorrow drawn(int s, int draws) {
        SubBorrow x = seeded(s);
        draw(x, draws);
        return x;
    }

    static void draw(SubBorrow x, int draws) {
        for (int i = 0; i < draws; i++) {
            x.next();
        }
    }

    static void finish() {
        System.out.println(sentences + " sentences, " + checked + " checks, " + broken + " sentences broken");
        if (broken != 0) {
            System.exit(1);
        }
    }

    private static void complain(String message) {
        wrong++;
        System.out.println("  " + message);
        if (wrong == WRONG_PER_SENTENCE) {
            throw new Enough();
        }
    }
}
