import java.lang.reflect.Array;
import java.lang.reflect.Field;

/**
 * Puts a number into a private field of a dock. It is for those sentences alone that no call of
 * the face can bring to their boundary: isConsistent() is never false, an open dock is never far
 * from the sea, and no ship waits for as long as 96 hours.
 */
final class Spoiler {

    private Spoiler() {
    }

    /** The path is like "now.ships.rows.1.position": fields, and indices of arrays. */
    static void put(FloatingDock dock, String path, int number) {
        String[] names = path.split("\\.");
        Object holder = dock;
        for (int i = 0; i + 1 < names.length; i++) {
            holder = get(holder, names[i]);
        }
        String last = names[names.length - 1];
        try {
            if (holder.getClass().isArray()) {
                Array.setInt(holder, Integer.parseInt(last), number);
            } else {
                field(holder, last).setInt(holder, number);
            }
        } catch (IllegalAccessException thrown) {
            throw new AssertionError(path, thrown);
        }
    }

    private static Object get(Object holder, String name) {
        if (holder.getClass().isArray()) {
            return Array.get(holder, Integer.parseInt(name));
        }
        try {
            return field(holder, name).get(holder);
        } catch (IllegalAccessException thrown) {
            throw new AssertionError(name, thrown);
        }
    }

    private static Field field(Object holder, String name) {
        try {
            Field field = holder.getClass().getDeclaredField(name);
            field.setAccessible(true);
            return field;
        } catch (NoSuchFieldException thrown) {
            throw new AssertionError(name, thrown);
        }
    }
}
