import java.lang.reflect.Constructor;
import java.lang.reflect.Field;
import java.lang.reflect.Method;
import java.lang.reflect.Modifier;
import java.util.Arrays;
import java.util.Set;
import java.util.TreeSet;

/** The public face: what the document names, and nothing else that is not private. */
public final class FaceTest {
    public static void main(String[] args) {
        int modifiers = SubBorrow.class.getModifiers();
        Check.holds("the class is public", Modifier.isPublic(modifiers));
        Check.holds("the class is final", Modifier.isFinal(modifiers));
        Check.holds("the class extends nothing", SubBorrow.class.getSuperclass() == Object.class);
        Check.due("count of interfaces", SubBorrow.class.getInterfaces().length, 0);
        Check.due("count of nested classes", SubBorrow.class.getDeclaredClasses().length, 0);

        Set<String> open = new TreeSet<>();
        for (Constructor<?> c : SubBorrow.class.getDeclaredConstructors()) {
            addIfOpen(open, c.getModifiers(), c.toString());
        }
        for (Method m : SubBorrow.class.getDeclaredMethods()) {
            addIfOpen(open, m.getModifiers(), m.toString());
        }
        for (Field f : SubBorrow.class.getDeclaredFields()) {
            addIfOpen(open, f.getModifiers(), f.toString());
        }
        Set<String> want = new TreeSet<>(Arrays.asList(
                "public SubBorrow()",
                "public int SubBorrow.seed(int)",
                "public int SubBorrow.next()",
                "public int SubBorrow.skip(int)",
                "public int SubBorrow.status()"));
        Check.holds("the members that are not private are " + want + ", found " + open, open.equals(want));
        Check.finish();
    }

    private static void addIfOpen(Set<String> open, int modifiers, String member) {
        if (!Modifier.isPrivate(modifiers)) {
            open.add(member);
        }
    }
}
