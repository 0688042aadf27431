import java.lang.reflect.Array;
import java.lang.reflect.Field;
import java.lang.reflect.Modifier;
import java.util.ArrayDeque;
import java.util.Collections;
import java.util.IdentityHashMap;
import java.util.Set;

/** All calls live in one room: what an object holds is made with it, is little, and no call adds to it. */
public final class RoomTest extends Trial {
    private static final int MOST_OBJECTS = 100;
    private static final int MOST_PLACES = 1500;

    public static void main(String[] args) throws IllegalAccessException {
        NewsDraughts x = new NewsDraughts();
        Set<Object> made = held(x);
        atMost("objects", made.size(), MOST_OBJECTS);
        atMost("fields and elements", places(made), MOST_PLACES);
        putEveryCall(x);
        Set<Object> later = held(x);
        due("no object more behind all calls", later.size(), made.size());
        for (Object o : later) due("made with it: " + o.getClass(), made.contains(o) ? 1 : 0, 1);
        checks.end();
    }

    private static void atMost(String what, int is, int most) {
        due(what + " are " + most + " at most: " + is, is <= most ? 1 : 0, 1);
    }

    private static void putEveryCall(NewsDraughts x) {
        write(x, "g4,4;n0,1,0;n0,2,15;n1,3,3;n2,4,12;n0,1,5;w1;w2;w3;w4;w0;w1;w2;w3;");
        x.fault();
        x.lay();
        for (int i = 0; i < 10; i++) x.open(i, i % 7);
        x.step(3);
        x.tell(9, 1);
        for (int i = 0; i < 3; i++) x.keep();
        for (int i = 0; i < 7; i++) x.see(i, i % 5, i, i % 2 == 0);
        x.behind(48, 15);
        x.when(15, 0);
        x.last(0, 1);
        x.cut(10, 0, 1);
        x.openings(1, 12, 1, 2, 0);
        x.bears(15, 3);
        x.quarrel(15, 1, 12, 1);
        x.began(0);
        x.blew();
        x.gusts(15, 0, 4, 0);
        x.year(9999, 60, 1);
        x.undo();
        x.back();
        x.forget();
        x.house(0, 2);
        x.news(0, 3);
        x.wind(99);
        x.count(5);
        x.wipe();
    }

    private static Set<Object> held(Object whole) throws IllegalAccessException {
        Set<Object> held = Collections.newSetFromMap(new IdentityHashMap<>());
        ArrayDeque<Object> open = new ArrayDeque<>();
        open.add(whole);
        while (!open.isEmpty()) {
            Object o = open.remove();
            if (!held.add(o)) continue;
            if (o instanceof Object[]) for (Object element : (Object[]) o) addTo(open, element);
            if (o.getClass().isArray()) continue;
            for (Field f : o.getClass().getDeclaredFields()) {
                if (Modifier.isStatic(f.getModifiers()) || f.getType().isPrimitive()) continue;
                f.setAccessible(true);
                addTo(open, f.get(o));
            }
        }
        return held;
    }

    private static void addTo(ArrayDeque<Object> open, Object o) {
        if (o != null) open.add(o);
    }

    private static int places(Set<Object> held) {
        int places = 0;
        for (Object o : held) {
            if (o.getClass().isArray()) {
                places += Array.getLength(o);
                continue;
            }
            for (Field f : o.getClass().getDeclaredFields()) places += Modifier.isStatic(f.getModifiers()) ? 0 : 1;
        }
        return places;
    }
}
