import java.lang.reflect.Array;
import java.lang.reflect.Field;
import java.lang.reflect.Modifier;
import java.util.IdentityHashMap;
import java.util.Map;

/**
 * What an object takes up: even a run that makes a new object with each of its calls stays within the room that all calls
 * share, and calls on an object make it no larger.
 */
public final class RoomTest {
    private static final long MOST_OBJECTS = 600_000;
    private static final long MOST_ELEMENTS = 7_300_000;

    private final Map<Object, Boolean> seen = new IdentityHashMap<>();
    private long elements = 0;

    public static void main(String[] args) throws IllegalAccessException {
        Due due = new Due();
        GrowingTiles x = new GrowingTiles();
        RoomTest before = measured(x);
        due.is("objects fit in", before.seen.size() * 512L <= MOST_OBJECTS, true);
        due.is("elements fit in: " + before.elements, before.elements * 512L <= MOST_ELEMENTS, true);
        askDearly(x);
        RoomTest behind = measured(x);
        due.is("objects behind the calls", behind.seen.size(), before.seen.size());
        due.is("elements behind the calls", behind.elements, before.elements);
        due.end();
    }

    private static void askDearly(GrowingTiles x) {
        for (int i = 0; i < 60; i++) {
            x.rule(i % 16, 15 - i % 16, 15, 1 + i % 15, 7 * i, 5 * i);
            x.walk(40);
            x.grow(250);
            x.orderly();
            x.keep(i % 3);
            x.undo(200);
            x.back((i + 1) % 3);
            x.feed(i, i, i, i, i);
        }
        for (int i = 0; i < 20; i++) {
            x.piece(3, 1, 1, 1, 1, 0);
            x.go(i % 16, 3);
        }
    }

    private static RoomTest measured(GrowingTiles x) throws IllegalAccessException {
        RoomTest measure = new RoomTest();
        measure.count(x);
        return measure;
    }

    private void count(Object one) throws IllegalAccessException {
        if (one == null || seen.put(one, true) != null) {
            return;
        }
        if (one.getClass().isArray()) {
            elements += Array.getLength(one);
            for (int i = 0; one instanceof Object[] && i < Array.getLength(one); i++) {
                count(Array.get(one, i));
            }
            return;
        }
        for (Field field : one.getClass().getDeclaredFields()) {
            if (!Modifier.isStatic(field.getModifiers())) {
                elements++;
                field.setAccessible(true);
                if (!field.getType().isPrimitive()) {
                    count(field.get(one));
                }
            }
        }
    }
}
