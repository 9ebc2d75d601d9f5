import java.lang.reflect.Constructor;
import java.lang.reflect.Field;
import java.lang.reflect.Method;
import java.lang.reflect.Modifier;
import java.util.Arrays;
import java.util.Set;
import java.util.TreeSet;

/** The public face: every constant, the constructor, every method, and nothing else. */
public final class FaceTest {
    private static final String[] METHODS = {
        "int lands(int)", "int season(int)", "int set(int, int, int)", "int say(int)", "int wipe()", "int fault()",
        "int judge(int)", "int done()", "int state(int, int)", "int behind(int, int)", "int day()",
        "int where(int, int)", "int who(int, int)", "int meet(int, int)", "int together(int, int, int)",
        "int begin(int, int, int)", "int longest(int, int, int)", "int struck(int, int, int)", "int sure(int)",
        "int fooled(int, int, int)", "int letter(int, int)", "int copy(int)", "int furs(int, int)",
        "int seen(int, boolean)", "int forget()", "int changed(int)", "int names(int)", "int hear(int)",
        "int undo()", "int marriages(int)", "long deaths(int, int, int, int)", "int year(int, int, int)",
        "int image(int)", "int restore(int)", "int told(int)"};
    private static final String[] CONSTANTS = {"NONE -6", "UNKNOWN -1", "OUTSIDE -2", "STATE -3", "FULL -4", "NO -5",
        "LOST -1000000000000000000"};

    private static final Due due = new Due();

    public static void main(String[] args) throws Exception {
        due.holds("public and final", Modifier.isPublic(HostageRound.class.getModifiers())
            && Modifier.isFinal(HostageRound.class.getModifiers()));
        same("methods", METHODS, methods());
        same("constants", CONSTANTS, constants());
        constructor();
        inside();
        due.end();
    }

    private static void same(String what, String[] want, Set<String> got) {
        Set<String> due = new TreeSet<>(Arrays.asList(want));
        FaceTest.due.holds(what + " " + got + ", due " + due, due.equals(got));
    }

    private static Set<String> methods() {
        Set<String> open = new TreeSet<>();
        Set<String> openNames = new TreeSet<>();
        for (Method m : HostageRound.class.getDeclaredMethods()) {
            if (!Modifier.isPrivate(m.getModifiers())) {
                String types = Arrays.toString(m.getParameterTypes());
                String exact = Modifier.toString(m.getModifiers()).equals("public") ? "" : m.getModifiers() + " ";
                open.add(exact + m.getReturnType() + " " + m.getName() + "("
                    + types.substring(1, types.length() - 1) + ")");
                openNames.add(m.getName());
            }
        }
        for (Method m : HostageRound.class.getDeclaredMethods()) {
            due.holds("no private " + m.getName(),
                !Modifier.isPrivate(m.getModifiers()) || !openNames.contains(m.getName()));
        }
        return open;
    }

    private static Set<String> constants() throws Exception {
        Set<String> open = new TreeSet<>();
        for (Field f : HostageRound.class.getDeclaredFields()) {
            if (!Modifier.isPrivate(f.getModifiers())) {
                due.holds(f.getName() + " is public static final",
                    Modifier.toString(f.getModifiers()).equals("public static final"));
                due.holds(f.getName() + " has its type",
                    f.getType() == (f.getName().equals("LOST") ? long.class : int.class));
                open.add(f.getName() + " " + f.get(null));
            } else {
                due.holds(f.getName() + " static and final",
                    !Modifier.isStatic(f.getModifiers()) || Modifier.isFinal(f.getModifiers()));
            }
        }
        return open;
    }

    private static void constructor() {
        Constructor<?>[] all = HostageRound.class.getDeclaredConstructors();
        due.is("constructors", all.length, 1);
        due.holds("public, of nothing", Modifier.isPublic(all[0].getModifiers()) && all[0].getParameterCount() == 0);
    }

    private static void inside() {
        Class<?>[] all = HostageRound.class.getDeclaredClasses();
        due.holds("some twelve classes at most", all.length <= 12);
        for (Class<?> c : all) {
            due.holds(c.getName() + " is private and static",
                Modifier.isPrivate(c.getModifiers()) && Modifier.isStatic(c.getModifiers()));
            long fields = Arrays.stream(c.getDeclaredFields()).filter(f -> !Modifier.isStatic(f.getModifiers())).count();
            due.holds(c.getName() + " has some twenty fields at most", fields <= 20);
            for (Method m : c.getDeclaredMethods()) {
                due.holds("no " + m.getName() + " inside",
                    Arrays.stream(METHODS).noneMatch(face -> face.contains(" " + m.getName() + "(")));
            }
            for (Field f : c.getDeclaredFields()) {
                due.holds(c.getName() + "." + f.getName(),
                    !Modifier.isStatic(f.getModifiers()) || Modifier.isFinal(f.getModifiers()));
            }
        }
    }
}
