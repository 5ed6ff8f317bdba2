/** Promise 1: construction and the start. */
public final class ConstructionTest {
    public static void main(String[] args) {
        usableAtOnce();
        startsAsSeedZeroLeaves();
        seedZeroOnNewObjectChangesNothing();
        objectsAreApart();
        Check.finish();
    }

    private static void usableAtOnce() {
        Check.due("new: status()", new SubBorrow().status(), 0);
        Check.due("new: skip(0)", new SubBorrow().skip(0), 0);
        Check.due("new: skip(200)", new SubBorrow().skip(200), 200);
        SubBorrow x = new SubBorrow();
        Check.due("new: next() number 1", x.next(), 15039276);
        Check.due("new: next() number 2", x.next(), 16323925);
    }

    private static void startsAsSeedZeroLeaves() {
        SubBorrow used = Check.seeded(77);
        used.skip(33);
        used.seed(0);
        Check.sameFuture("new against a used object after seed(0)", new SubBorrow(), used);
        Check.sameFuture("new against seed(19780503)", new SubBorrow(), Check.seeded(19780503));
        Check.sameFuture("new against the model", new SubBorrow(), new Model());
    }

    private static void seedZeroOnNewObjectChangesNothing() {
        SubBorrow x = new SubBorrow();
        Check.due("new: seed(0)", x.seed(0), 1);
        Check.sameFuture("seed(0) on a new object", x, new SubBorrow());
    }

    private static void objectsAreApart() {
        SubBorrow first = new SubBorrow();
        SubBorrow second = new SubBorrow();
        first.seed(5);
        first.skip(100);
        Check.sameFuture("an object beside a used one", second, new SubBorrow());
        SubBorrow third = Check.seeded(9);
        new SubBorrow();
        Check.sameFuture("an object before another is made", third, Check.seeded(9));
    }
}
