import java.lang.reflect.Array;
import java.lang.reflect.Field;
import java.lang.reflect.Modifier;
import java.util.Collections;
import java.util.IdentityHashMap;
import java.util.Set;

/** What an object holds: objects and arrays, and their fields and elements, each counted once. */
final class Room {
    private final Set<Object> met = Collections.newSetFromMap(new IdentityHashMap<>());
    int objects;
    int elements;

    void count(Object o) throws IllegalAccessException {
        if (o == null || !met.add(o)) {
            return;
        }
        objects++;
        if (o.getClass().isArray()) {
            countElements(o);
            return;
        }
        for (Field f : o.getClass().getDeclaredFields()) {
            if (!Modifier.isStatic(f.getModifiers())) {
                elements++;
                if (!f.getType().isPrimitive()) {
                    f.setAccessible(true);
                    count(f.get(o));
                }
            }
        }
    }

    private void countElements(Object array) throws IllegalAccessException {
        elements += Array.getLength(array);
        if (!array.getClass().getComponentType().isPrimitive()) {
            for (int i = 0; i < Array.getLength(array); i++) {
                count(Array.get(array, i));
            }
        }
    }
}
