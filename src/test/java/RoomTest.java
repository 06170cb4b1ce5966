import java.lang.reflect.Array;
import java.lang.reflect.Field;
import java.lang.reflect.Modifier;
import java.util.ArrayDeque;
import java.util.Collections;
import java.util.Deque;
import java.util.IdentityHashMap;
import java.util.Set;

/** LANGUAGE.md 12: what an object holds is counted. It is all made with it, and stays the same whatever is called. */
public final class RoomTest {
    private static final Check CHECK = new Check("RoomTest");
    /** A run of 512 calls may make an object with each: 600,000 objects and 7.3 million elements are its room. */
    private static final int MOST_OBJECTS = 600_000 / 512;
    private static final int MOST_ELEMENTS = 7_300_000 / 512;

    public static void main(String[] args) throws IllegalAccessException {
        long[] fresh = held(new HalfMast());
        System.out.println("RoomTest: a new object is " + fresh[0] + " objects, " + fresh[1] + " fields and elements");
        CHECK.due("objects: " + fresh[0], fresh[0] <= MOST_OBJECTS, true);
        CHECK.due("fields and elements: " + fresh[1], fresh[1] <= MOST_ELEMENTS, true);
        for (Busy busy : Busy.values()) {
            HalfMast[] last = new HalfMast[1];
            Shown.of(() -> {
                last[0] = busy.made();
                return last[0];
            });
            dueAlike("the " + busy + " town, much asked", held(last[0]), fresh);
            HalfMast x = busy.made();
            for (int i = 0; i < 100; i++) {
                x.day();
                x.undo();
                x.mark(i & 3, (i & 4) != 0);
            }
            dueAlike("the " + busy + " town, much changed", held(x), fresh);
        }
        CHECK.finish();
    }

    private static void dueAlike(String when, long[] held, long[] fresh) {
        CHECK.due(when + ", objects", held[0], fresh[0]);
        CHECK.due(when + ", fields and elements", held[1], fresh[1]);
    }

    /** Objects, then fields and elements, of all that can be reached; an enum's constants are there once for all. */
    private static long[] held(Object from) throws IllegalAccessException {
        Set<Object> met = Collections.newSetFromMap(new IdentityHashMap<>());
        Deque<Object> open = new ArrayDeque<>();
        long elements = 0;
        meet(from, met, open);
        while (!open.isEmpty()) {
            Object one = open.pop();
            elements += one.getClass().isArray() ? elementsOf(one, met, open) : fieldsOf(one, met, open);
        }
        return new long[] {met.size(), elements};
    }

    private static void meet(Object one, Set<Object> met, Deque<Object> open) {
        if (one != null && !(one instanceof Enum) && met.add(one)) {
            open.push(one);
        }
    }

    private static int elementsOf(Object row, Set<Object> met, Deque<Object> open) {
        if (row instanceof Object[] objects) {
            for (Object one : objects) {
                meet(one, met, open);
            }
        }
        return Array.getLength(row);
    }

    private static int fieldsOf(Object one, Set<Object> met, Deque<Object> open) throws IllegalAccessException {
        int fields = 0;
        for (Field field : one.getClass().getDeclaredFields()) {
            if (!Modifier.isStatic(field.getModifiers())) {
                fields++;
                field.setAccessible(true);
                if (!field.getType().isPrimitive()) {
                    meet(field.get(one), met, open);
                }
            }
        }
        return fields;
    }
}
