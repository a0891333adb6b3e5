import java.lang.reflect.Constructor;
import java.lang.reflect.Field;
import java.lang.reflect.Member;
import java.lang.reflect.Method;
import java.lang.reflect.Modifier;
import java.util.Arrays;
import java.util.TreeSet;

/** The public face: its constants, the constructor, its methods, and nothing else that is not private. */
public final class FaceTest {
    private static final String[] METHODS = {
        "row(int,int,int)", "set(int,int,int)", "copy(int,int,int,int,int)", "drop(int)", "feed(int)", "valley()",
        "fault()", "days(int)", "lend(int,int,int)", "pay(int,int,int)", "forgive(int,int)", "mend(int,int)",
        "undo()", "bell(int,int)", "owes(int,int)", "ahead(int,int,int)", "later(int,int,int)", "even()",
        "first(int)", "payments(int)", "circle(int)", "more(int,int)", "fits(int,int,int,int,int,int)",
        "stones(int,int,int)", "drawn(int,int,int)", "image(int)", "restore(int)", "kind(int)", "as(int,int)",
        "ask(int,int)", "trace(int)", "count(int)", "status()"};

    public static void main(String[] args) {
        Due due = new Due("FaceTest");
        due.is("NONE", -1000000, BellDebts.NONE);
        due.is("BAD", -1000001, BellDebts.BAD);
        due.is("STATE", -1000002, BellDebts.STATE);
        due.is("FULL", -1000003, BellDebts.FULL);

        TreeSet<String> wanted = new TreeSet<>(Arrays.asList(METHODS));
        TreeSet<String> names = new TreeSet<>();
        TreeSet<String> found = new TreeSet<>();
        for (Method m : BellDebts.class.getDeclaredMethods()) {
            if (Modifier.isPublic(m.getModifiers()) && m.getReturnType() == int.class) {
                found.add(m.toString().replaceAll("^.*BellDebts\\.", ""));
                names.add(m.getName());
            }
        }
        due.is("methods " + found, 1, wanted.equals(found) ? 1 : 0);
        for (Method m : BellDebts.class.getDeclaredMethods()) {
            due.is("private or of the face: " + m, 1, isHidden(m) || names.contains(m.getName()) ? 1 : 0);
            due.is("no private one bears a public name: " + m, 0,
                Modifier.isPrivate(m.getModifiers()) && names.contains(m.getName()) ? 1 : 0);
        }
        for (Field f : BellDebts.class.getDeclaredFields()) {
            due.is("private or a constant: " + f, 1,
                isHidden(f) || Arrays.asList("NONE", "BAD", "STATE", "FULL").contains(f.getName()) ? 1 : 0);
        }
        Constructor<?>[] makers = BellDebts.class.getDeclaredConstructors();
        due.is("constructors", 1, makers.length);
        due.is("constructor is public", 1, Modifier.isPublic(makers[0].getModifiers()) ? 1 : 0);
        due.is("class is final", 1, Modifier.isFinal(BellDebts.class.getModifiers()) ? 1 : 0);
        for (Class<?> inside : BellDebts.class.getDeclaredClasses()) {
            due.is("static inside: " + inside, 1, Modifier.isStatic(inside.getModifiers()) ? 1 : 0);
            due.is("hidden inside: " + inside, 0,
                inside.getModifiers() & (Modifier.PUBLIC | Modifier.PROTECTED));
            for (Method m : inside.getDeclaredMethods()) {
                due.is("no method inside bears a public name: " + m, 0, names.contains(m.getName()) ? 1 : 0);
            }
        }
        due.end();
    }

    private static boolean isHidden(Member m) {
        return Modifier.isPrivate(m.getModifiers()) || m.isSynthetic();
    }
}
