import java.lang.reflect.Array;
import java.lang.reflect.Field;
import java.lang.reflect.Modifier;
import java.util.Collections;
import java.util.IdentityHashMap;
import java.util.Set;

/** The room of a run: even 512 objects, each with both snapshots, are to fit into it. */
final class RoomTest {
    private static final int OBJECTS_OF_A_RUN = 512;
    private static final int MOST_OBJECTS = 600_000;
    private static final int MOST_FIELDS = 7_300_000;

    private final Set<Object> seen = Collections.newSetFromMap(new IdentityHashMap<>());
    private int fields;

    private RoomTest() {
    }

    public static void main(String[] args) throws IllegalAccessException {
        Check.description("LANGUAGE 12");
        AdjustmentStack x = new AdjustmentStack();
        RoomTest fresh = new RoomTest();
        fresh.visit(x);
        Check.holds("there is something to count", fresh.seen.size() > 100 && fresh.fields > 5000);
        State.FULL.make(x);
        Call.makeAll(x, "save 0, save 1, strongestLayer, exchangeDifference 0, undo, restore 0, clearText, loadStack, undo");
        RoomTest used = new RoomTest();
        used.visit(x);
        Check.holds(used.seen.size() + " objects, 512 times, are not too many",
            used.seen.size() * OBJECTS_OF_A_RUN <= MOST_OBJECTS);
        Check.holds(used.fields + " fields and elements, 512 times, are not too many",
            used.fields * OBJECTS_OF_A_RUN <= MOST_FIELDS);
        Check.end();
    }

    private void visit(Object object) throws IllegalAccessException {
        if (object == null || !seen.add(object)) {
            return;
        }
        Class<?> type = object.getClass();
        if (type.isArray()) {
            int length = Array.getLength(object);
            fields += length;
            for (int i = 0; i < length && !type.getComponentType().isPrimitive(); i++) {
                visit(Array.get(object, i));
            }
            return;
        }
        for (Field field : type.getDeclaredFields()) {
            if (!Modifier.isStatic(field.getModifiers())) {
                fields++;
                field.setAccessible(true);
                if (!field.getType().isPrimitive()) {
                    visit(field.get(object));
                }
            }
        }
    }
}
