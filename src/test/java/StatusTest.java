/** Promise 5: status. */
public final class StatusTest {
    public static void main(String[] args) {
        justAfterTheStart();
        followsTheCursorAndTheBorrow();
        everyAnswerInRangeIsReached();
        changesNothing();
        Check.finish();
    }

    private static void justAfterTheStart() {
        Check.due("new: status()", new SubBorrow().status(), 0);
        Check.due("seed(1): status()", Check.seeded(1).status(), 0);
        Check.due("seed(-1): status()", Check.seeded(-1).status(), 0);
        // Word 23 is 0 for these two.
        Check.due("seed(1604714404): status()", Check.seeded(1604714404).status(), 1);
        Check.due("seed(-23593243): status()", Check.seeded(-23593243).status(), 1);
    }

    private static void followsTheCursorAndTheBorrow() {
        SubBorrow x = Check.seeded(2);
        x.skip(5);
        Check.due("seed(2), skip(5): status()", x.status(), 10);
        x.next();
        Check.due("seed(2), skip(5), next(): status()", x.status(), 13);
        x.skip(15);
        Check.due("seed(2), 21 draws: status()", x.status(), 42);
        x.skip(2);
        Check.due("seed(2), 23 draws: status() / 2", x.status() / 2, 23);
        x.next();
        Check.due("seed(2), 24 draws: status() / 2", x.status() / 2, 0);
    }

    private static void everyAnswerInRangeIsReached() {
        boolean[] seen = new boolean[48];
        SubBorrow x = new SubBorrow();
        for (int i = 0; i < 5000; i++) {
            int answer = x.status();
            Check.holds("status() " + answer + " is in range", answer >= 0 && answer <= 47);
            Check.due("status() / 2 after " + i + " draws", answer / 2, i % 24);
            if (answer >= 0 && answer <= 47) {
                seen[answer] = true;
            }
            x.next();
        }
        for (int answer = 0; answer < 48; answer++) {
            Check.holds("status() answers " + answer + " at some time", seen[answer]);
        }
    }

    private static void changesNothing() {
        SubBorrow asked = Check.seeded(11);
        SubBorrow unasked = Check.seeded(11);
        for (int i = 0; i < 200; i++) {
            int first = asked.status();
            for (int k = 0; k < 5; k++) {
                Check.due("status() again after " + i + " draws", asked.status(), first);
            }
            Check.due("next() after status(), draw " + (i + 1), asked.next(), unasked.next());
        }
        Check.sameFuture("after many calls of status()", asked, unasked);
    }
}
