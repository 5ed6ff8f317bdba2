/** What the tests share: compares answers, prints the wrong ones, and ends with exit code 1 if there was one. */
final class Check {
    /** Three times round the words, so that every word, the borrow and the cursor show in the answers. */
    static final int FUTURE = 72;

    private static int wrong = 0;
    private static int checked = 0;

    private Check() {
    }

    static void due(String what, long got, long want) {
        checked++;
        if (got != want) {
            wrong++;
            System.out.println(what + " answered " + got + ", due is " + want);
        }
    }

    static void holds(String what, boolean held) {
        checked++;
        if (!held) {
            wrong++;
            System.out.println("does not hold: " + what);
        }
    }

    /** Draws from both, so it uses them up. */
    static void sameFuture(String what, SubBorrow got, SubBorrow want) {
        due(what + ": status()", got.status(), want.status());
        for (int i = 1; i <= FUTURE; i++) {
            due(what + ": next() number " + i, got.next(), want.next());
            due(what + ": status() after next() number " + i, got.status(), want.status());
        }
    }

    static void sameFuture(String what, SubBorrow got, Model want) {
        due(what + ": status()", got.status(), want.status());
        for (int i = 1; i <= FUTURE; i++) {
            due(what + ": next() number " + i, got.next(), want.next());
            due(what + ": status() after next() number " + i, got.status(), want.status());
        }
    }

    static SubBorrow seeded(int s) {
        SubBorrow x = new SubBorrow();
        x.seed(s);
        return x;
    }

    static void finish() {
        System.out.println(checked + " checks, " + wrong + " wrong");
        if (wrong != 0) {
            System.exit(1);
        }
    }
}
