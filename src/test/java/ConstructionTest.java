/** Promise 1: construction and the start. */
public final class ConstructionTest {
    public static void main(String[] args) {
        Check.sentence("A new object starts in exactly the state that `seed(0)` leaves (see Promise 2): the same 24 words,"
                + " the same borrow, and the cursor at 0.", ConstructionTest::startsAsSeedZeroLeaves);
        Check.sentence("A new object can be used at once; no call of `seed` is needed first.",
                ConstructionTest::usableAtOnce);
        Check.sentence("Calling `seed(0)` on a new object leaves its state as it was.",
                ConstructionTest::seedZeroOnNewObjectChangesNothing);
        Check.sentence("An object holds the following state, and every answer depends only on this state and on the"
                + " arguments: (so no object has an influence on another)", ConstructionTest::objectsAreApart);
        Check.finish();
    }

    private static void startsAsSeedZeroLeaves() {
        SubBorrow used = Check.drawn(77, 33);
        used.seed(0);
        Check.sameFuture("new against a used object after seed(0)", new SubBorrow(), used);
        Check.sameFuture("new against seed(19780503)", new SubBorrow(), Check.seeded(19780503));
        Check.sameFuture("new against the model", new SubBorrow(), new Model());
        State start = new State(new SubBorrow());
        State seeded = new State(used(0));
        for (int k = 0; k < State.WORDS; k++) {
            Check.due("new: word " + k, start.words[k], seeded.words[k]);
        }
        Check.due("new: word 0", start.words[0], 19780503L * 40014 % SeedOf.MODULUS & State.TOP);
        Check.due("new: borrow", start.borrow, 0);
        Check.due("new: cursor", start.cursor, 0);
    }

    /** An object seeded late, with a cursor and a borrow of its own before. */
    private static SubBorrow used(int s) {
        SubBorrow x = Check.drawn(5, 23);
        x.seed(s);
        return x;
    }

    private static void usableAtOnce() {
        SubBorrow x = new SubBorrow();
        Check.due("new: next() number 1", x.next(), 15039276);
        Check.due("new: next() number 2", x.next(), 16323925);
        Check.due("new: status()", new SubBorrow().status(), 0);
        Check.due("new: skip(0)", new SubBorrow().skip(0), 0);
        Check.due("new: skip(200)", new SubBorrow().skip(200), 200);
        Check.due("new: skip(-1)", new SubBorrow().skip(-1), -1);
        Check.due("new: skip(201)", new SubBorrow().skip(201), -2);
    }

    private static void seedZeroOnNewObjectChangesNothing() {
        SubBorrow x = new SubBorrow();
        Check.due("new: seed(0)", x.seed(0), 1);
        Check.due("new: seed(0) again", x.seed(0), 1);
        Check.sameFuture("seed(0) on a new object", x, new SubBorrow());
    }

    private static void objectsAreApart() {
        SubBorrow first = new SubBorrow();
        SubBorrow second = new SubBorrow();
        first.seed(5);
        Check.draw(first, 100);
        Check.sameFuture("an object beside a used one", second, new Model());
        SubBorrow third = Check.drawn(9, 30);
        new SubBorrow();
        Model model = new Model();
        model.seed(9);
        model.skip(30);
        Check.sameFuture("an object after another is made", third, model);
    }
}
