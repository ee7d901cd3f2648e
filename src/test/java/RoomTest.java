import java.lang.reflect.Array;
import java.lang.reflect.Field;
import java.lang.reflect.Modifier;
import java.util.ArrayDeque;
import java.util.Collections;
import java.util.Deque;
import java.util.IdentityHashMap;
import java.util.Set;

/**
 * What an object holds of the room in which all calls of a run live: so little that every one of
 * 512 calls could be the making of one more; and it holds no more behind many calls.
 */
public final class RoomTest extends Dues {
    private static final int CALLS = 512;
    private static final long MOST_OBJECTS = 600_000;
    private static final long MOST_ELEMENTS = 7_300_000;

    private long objects;
    private long elements;

    public static void main(String[] args) throws IllegalAccessException {
        RoomTest fresh = new RoomTest();
        fresh.measure(new RewriteChecks());
        dueAtMost("objects and arrays", fresh.objects * CALLS, MOST_OBJECTS);
        dueAtMost("fields and elements", fresh.elements * CALLS, MOST_ELEMENTS);
        RoomTest behind = new RoomTest();
        behind.measure(Busy.of(1000));
        due("objects and arrays behind many calls", behind.objects, fresh.objects);
        due("fields and elements behind many calls", behind.elements, fresh.elements);
        CHECK.finish();
    }

    private static void dueAtMost(String name, long got, long most) {
        due(name + ": " + got + " of " + most + " are too many", got > most ? 1 : 0, 0);
    }

    private void measure(Object whole) throws IllegalAccessException {
        Set<Object> seen = Collections.newSetFromMap(new IdentityHashMap<>());
        Deque<Object> waiting = new ArrayDeque<>();
        waiting.add(whole);
        while (!waiting.isEmpty()) {
            Object o = waiting.remove();
            if (seen.add(o)) {
                objects++;
                if (o.getClass().isArray()) {
                    elements += Array.getLength(o);
                } else {
                    measureFields(o, waiting);
                }
            }
        }
    }

    private void measureFields(Object o, Deque<Object> waiting) throws IllegalAccessException {
        for (Field f : o.getClass().getDeclaredFields()) {
            if (!Modifier.isStatic(f.getModifiers())) {
                elements++;
                f.setAccessible(true);
                if (!f.getType().isPrimitive() && f.get(o) != null) {
                    waiting.add(f.get(o));
                }
            }
        }
    }
}
