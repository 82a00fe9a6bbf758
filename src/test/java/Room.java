import java.lang.reflect.Array;
import java.lang.reflect.Field;
import java.lang.reflect.Modifier;
import java.util.Collections;
import java.util.IdentityHashMap;
import java.util.Set;

/** How many objects and arrays hang together, and how many fields and elements they have. */
final class Room {
    private final Set<Object> seen = Collections.newSetFromMap(new IdentityHashMap<>());
    private long elements;

    long objects() {
        return seen.size();
    }

    long elements() {
        return elements;
    }

    void add(Object part) throws IllegalAccessException {
        if (part == null || !seen.add(part)) {
            return;
        }
        if (part.getClass().isArray()) {
            addElements(part);
        } else {
            addFields(part);
        }
    }

    private void addElements(Object array) throws IllegalAccessException {
        elements += Array.getLength(array);
        if (!array.getClass().getComponentType().isPrimitive()) {
            for (int i = 0; i < Array.getLength(array); i++) {
                add(Array.get(array, i));
            }
        }
    }

    private void addFields(Object object) throws IllegalAccessException {
        for (Field field : object.getClass().getDeclaredFields()) {
            if (!Modifier.isStatic(field.getModifiers())) {
                elements++;
                field.setAccessible(true);
                if (!field.getType().isPrimitive()) {
                    add(field.get(object));
                }
            }
        }
    }
}
