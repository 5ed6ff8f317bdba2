import java.lang.reflect.Constructor;
import java.lang.reflect.Field;
import java.lang.reflect.Method;
import java.lang.reflect.Modifier;
import java.util.Arrays;
import java.util.List;
import java.util.Set;
import java.util.TreeSet;

/** The public face, and what the document says of the whole class. */
public final class FaceTest {
    private static final int[] ARGUMENTS = {
        -2147483648, -2147483647, -542769329, -201, -200, -171, -170, -169, -2, -1, 0, 1, 2, 23, 24, 25, 199, 200, 201,
        19780503, 1604714404, 2147483562, 2147483563, 2147483564, 2147483646, 2147483647,
    };

    public static void main(String[] args) {
        Check.sentence("public final class SubBorrow", FaceTest::theClass);
        Check.sentence("The class has no public, protected or package-visible member beyond these.",
                FaceTest::noOtherMember);
        Check.sentence("There are no public constants.", FaceTest::noPublicConstant);
        Check.sentence("Nothing here ever throws: the constructor and every method answer for any values of their"
                + " arguments and in any state, and every call returns.", FaceTest::nothingThrows);
        Check.sentence("24 words, numbered 0 to 23, each in the range 0 to 16777215 (24 bits); a borrow, which is 0 or 1;"
                + " a cursor, which is in the range 0 to 23.", FaceTest::stateStaysInRange);
        Check.sentence("every answer depends only on this state and on the arguments",
                FaceTest::answersDependOnTheStateAlone);
        Check.finish();
    }

    private static void theClass() {
        int modifiers = SubBorrow.class.getModifiers();
        Check.holds("the class is public", Modifier.isPublic(modifiers));
        Check.holds("the class is final", Modifier.isFinal(modifiers));
        Check.holds("the class extends nothing", SubBorrow.class.getSuperclass() == Object.class);
        Check.due("count of interfaces", SubBorrow.class.getInterfaces().length, 0);
        Check.due("count of nested classes", SubBorrow.class.getDeclaredClasses().length, 0);
    }

    private static void noOtherMember() {
        Set<String> open = new TreeSet<>();
        for (Constructor<?> c : SubBorrow.class.getDeclaredConstructors()) {
            addIfOpen(open, c.getModifiers(), c.toString());
        }
        for (Method m : SubBorrow.class.getDeclaredMethods()) {
            addIfOpen(open, m.getModifiers(), m.toString());
        }
        for (Field f : SubBorrow.class.getDeclaredFields()) {
            addIfOpen(open, f.getModifiers(), f.toString());
        }
        Set<String> want = new TreeSet<>(Arrays.asList(
                "public SubBorrow()",
                "public int SubBorrow.seed(int)",
                "public int SubBorrow.next()",
                "public int SubBorrow.skip(int)",
                "public int SubBorrow.status()"));
        Check.holds("the members that are not private are " + want + ", found " + open, open.equals(want));
    }

    private static void addIfOpen(Set<String> open, int modifiers, String member) {
        if (!Modifier.isPrivate(modifiers)) {
            open.add(member);
        }
    }

    private static void noPublicConstant() {
        List<Field> found = Arrays.asList(SubBorrow.class.getFields());
        Check.holds("no public field, found " + found, found.isEmpty());
    }

    /** Every pair of arguments, in states with every cursor and both borrows: a throw ends the test as broken. */
    private static void nothingThrows() {
        boolean[] seen = new boolean[48];
        SubBorrow x = new SubBorrow();
        for (int draws = 0; draws < 600; draws++) {
            seen[x.status()] = true;
            for (int n : ARGUMENTS) {
                Check.due("skip(" + n + ")", x.skip(n), n < 0 ? -1 : n > 200 ? -2 : n);
            }
            x.next();
        }
        for (int s : ARGUMENTS) {
            for (int n : ARGUMENTS) {
                Check.due("seed(" + s + ")", x.seed(s), s == 0 ? 1 : 0);
                Check.due("skip(" + n + ")", x.skip(n), n < 0 ? -1 : n > 200 ? -2 : n);
                x.next();
                x.status();
            }
        }
        for (int status = 0; status < 48; status++) {
            Check.holds("a state with status() " + status + " was among them", seen[status]);
        }
    }

    private static void stateStaysInRange() {
        SubBorrow x = new SubBorrow();
        for (int s : ARGUMENTS) {
            x.seed(s);
            for (int i = 0; i < 2000; i++) {
                int status = x.status();
                Check.holds("borrow and cursor of status() " + status, status >= 0 && status <= 47);
                int word = x.next();
                Check.holds("word " + word + " after seed(" + s + ")", word >= 0 && word <= State.TOP);
            }
        }
    }

    /** The same state, come to after more and more other calls. */
    private static void answersDependOnTheStateAlone() {
        SubBorrow x = new SubBorrow();
        for (int round = 0; round < 30; round++) {
            for (int n : ARGUMENTS) {
                x.seed(-1);
                x.skip(30);
                Model model = new Model();
                model.seed(-1);
                model.skip(30);
                Check.sameFuture("round " + round + " before skip(" + n + ")", x, model);
                x.skip(n);
                x.seed(n);
                x.status();
                x.next();
            }
        }
    }
}
