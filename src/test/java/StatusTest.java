/** Promise 5: status. */
public final class StatusTest {
    public static void main(String[] args) {
        Check.sentence("`status()` answers cursor * 2 + borrow.", StatusTest::cursorAndBorrow);
        Check.sentence("The cursor is 0 to 23 and the borrow is 0 or 1, so the answer is always in the range 0 to 47.",
                StatusTest::everyAnswerInRangeIsReached);
        Check.sentence("Just after construction or after any call of `seed`, the cursor is 0, so the answer is the borrow: 1"
                + " if word 23 is 0, and otherwise 0.", StatusTest::justAfterTheStart);
        Check.sentence("It changes nothing: the words, the borrow and the cursor stay as they were, and calling it any number"
                + " of times has no influence on later answers.", StatusTest::changesNothing);
        Check.finish();
    }

    private static void cursorAndBorrow() {
        SubBorrow x = Check.seeded(2);
        Model model = new Model();
        model.seed(2);
        for (int draws = 0; draws <= 500; draws++) {
            Check.due("seed(2), " + draws + " draws: status()", x.status(), model.status());
            x.next();
            model.next();
        }
        Check.due("seed(2), 5 draws: status()", Check.drawn(2, 5).status(), 10);
        Check.due("seed(2), 6 draws: status()", Check.drawn(2, 6).status(), 13);
        Check.due("seed(2), 21 draws: status()", Check.drawn(2, 21).status(), 42);
    }

    private static void everyAnswerInRangeIsReached() {
        boolean[] seen = new boolean[48];
        SubBorrow x = new SubBorrow();
        for (int i = 0; i < 5000; i++) {
            int answer = x.status();
            Check.holds("status() " + answer + " is in range", answer >= 0 && answer <= 47);
            Check.due("status() / 2 after " + i + " draws", answer / 2, i % 24);
            if (answer >= 0 && answer <= 47) {
                seen[answer] = true;
            }
            x.next();
        }
        for (int answer = 0; answer < 48; answer++) {
            Check.holds("status() answers " + answer + " at some time", seen[answer]);
        }
    }

    private static void justAfterTheStart() {
        Check.due("new: status()", new SubBorrow().status(), 0);
        for (int draws = 0; draws <= 48; draws++) {
            SubBorrow x = Check.drawn(41, draws);
            afterSeed(x, 0, 0);
            afterSeed(x, 1, 0);
            afterSeed(x, -1, 0);
            // Word 23 is 0 for these four, and for no other here.
            afterSeed(x, 1604714404, 1);
            afterSeed(x, -542769329, 1);
            afterSeed(x, -23593243, 1);
            afterSeed(x, SeedOf.valueAtWord(23, 127L << 24), 1);
            afterSeed(x, SeedOf.valueAtWord(23, 1), 0);
            afterSeed(x, SeedOf.valueAtWord(23, 16777215), 0);
            afterSeed(x, SeedOf.valueAtWord(22, 16777216), 0);
            afterSeed(x, SeedOf.valueAtWord(0, 16777216), 0);
        }
    }

    /** Draws first, so that the cursor has a way to come back. */
    private static void afterSeed(SubBorrow x, int s, int status) {
        x.next();
        x.seed(s);
        Check.due("seed(" + s + "), status()", x.status(), status);
    }

    /** Draws without asking between, so that what an odd count of calls does is not undone by one more. */
    private static void changesNothing() {
        for (int times : new int[] {1, 2, 3, 10000}) {
            for (int before = 0; before <= 48; before++) {
                SubBorrow asked = Check.drawn(11, before);
                SubBorrow unasked = Check.drawn(11, before);
                int first = asked.status();
                for (int i = 2; i <= times; i++) {
                    Check.due(before + " draws, status() number " + i, asked.status(), first);
                }
                for (int i = 1; i <= Check.FUTURE; i++) {
                    String what = before + " draws, status() " + times + " times, next() number " + i;
                    Check.due(what, asked.next(), unasked.next());
                }
                Check.due(before + " draws, then " + Check.FUTURE + ": status()", asked.status(), unasked.status());
            }
        }
    }
}
