import java.lang.reflect.Constructor;
import java.lang.reflect.Field;
import java.lang.reflect.Method;
import java.lang.reflect.Modifier;
import java.util.Set;
import java.util.TreeSet;

/** The public face is the document's, and nothing else of the class can be reached from outside. */
public final class FaceTest {
    private static final String[] CALLS = {
        "write(int)", "wipe()", "fault()", "lay()", "house(int,int)", "news(int,int)", "wind(int)", "step(int)",
        "open(int,int)", "tell(int,int)", "undo()", "behind(int,int)", "when(int,int)", "last(int,int)",
        "cut(int,int,int)", "openings(int,int,int,int,int)", "bears(int,int)", "quarrel(int,int,int,int)",
        "see(int,int,int,boolean)", "forget()", "began(int)", "blew()", "gusts(int,int,int,int)",
        "year(int,int,int)", "keep()", "back()", "count(int)"
    };

    private static final Checks checks = new Checks();

    public static void main(String[] args) {
        Class<?> face = NewsDraughts.class;
        holds("the class is public and final", Modifier.isPublic(face.getModifiers()) && Modifier.isFinal(face.getModifiers()));
        holds("one constructor", face.getDeclaredConstructors().length == 1);
        for (Constructor<?> c : face.getConstructors()) holds("it takes nothing", c.getParameterCount() == 0);
        methods(face);
        fields(face);
        for (Class<?> inside : face.getDeclaredClasses()) {
            int modifiers = inside.getModifiers();
            holds(inside + " is static", Modifier.isStatic(modifiers));
            holds(inside + " is not public", !Modifier.isPublic(modifiers) && !Modifier.isProtected(modifiers));
        }
        checks.end();
    }

    private static void holds(String what, boolean so) {
        checks.due(what, so ? 1 : 0, 1);
    }

    private static void methods(Class<?> face) {
        Set<String> due = new TreeSet<>(Set.of(CALLS));
        Set<String> names = new TreeSet<>();
        for (String call : CALLS) names.add(call.substring(0, call.indexOf('(')));
        for (Method m : face.getDeclaredMethods()) {
            if (m.isSynthetic()) continue;
            if (!Modifier.isPublic(m.getModifiers())) {
                holds(m + " is private", Modifier.isPrivate(m.getModifiers()));
                holds(m + " bears a name of its own", !names.contains(m.getName()));
                continue;
            }
            holds(m + " is in the document", due.remove(signature(m)));
            holds(m + " answers an int", m.getReturnType() == int.class);
            holds(m + " is not static", !Modifier.isStatic(m.getModifiers()));
        }
        holds("nothing is missing: " + due, due.isEmpty());
    }

    private static String signature(Method m) {
        StringBuilder types = new StringBuilder();
        for (Class<?> type : m.getParameterTypes()) types.append(types.length() > 0 ? "," : "").append(type.getName());
        return m.getName() + "(" + types + ")";
    }

    private static void fields(Class<?> face) {
        Set<String> constants = new TreeSet<>(Set.of("BAD", "NO", "FULL", "NONE"));
        for (Field f : face.getDeclaredFields()) {
            int modifiers = f.getModifiers();
            if (Modifier.isPrivate(modifiers) || f.isSynthetic()) continue;
            holds(f + " is in the document", constants.remove(f.getName()));
            holds(f + " is a constant", Modifier.isStatic(modifiers) && Modifier.isFinal(modifiers) && f.getType() == int.class);
        }
        holds("no constant is missing: " + constants, constants.isEmpty());
    }
}
