import java.lang.reflect.Array;
import java.lang.reflect.Field;
import java.lang.reflect.Modifier;
import java.util.ArrayDeque;
import java.util.Collections;
import java.util.Deque;
import java.util.IdentityHashMap;
import java.util.Set;

/**
 * All calls of a run live in one room. Beside exceptions only the constructor and the first begin of each LEVEL make
 * anything, so 512 times what the constructor makes bounds every run.
 */
public final class RoomTest {
    private static final int CALLS = 512;
    private static final int ROOM_OBJECTS = 600_000;
    private static final int ROOM_CELLS = 7_300_000;

    private int objects;
    private int cells;

    public static void main(String[] args) throws IllegalAccessException {
        Due due = new Due("RoomTest");
        TwinLinks house = new TwinLinks();
        RoomTest fresh = held(house);
        due.same("objects times calls fit", true, fresh.objects * CALLS <= ROOM_OBJECTS);
        due.same("cells times calls fit", true, fresh.cells * CALLS <= ROOM_CELLS);
        RoomTest last = fresh;
        for (int level = 1; level <= 12; level++) {
            house.begin();
            RoomTest next = held(house);
            due.same("a level takes less than a new object", true, next.cells - last.cells < fresh.cells);
            last = next;
        }
        due.same("what levels took serves again", last.cells, afterManyLevels(house).cells);
        due.close();
    }

    private static RoomTest afterManyLevels(TwinLinks house) throws IllegalAccessException {
        for (int n = 0; n < 100; n++) {
            int made = house.make(0);
            house.drop(house.copy(made));
            house.drop(made);
            house.end(n % 2 == 0);
            house.begin();
        }
        return held(house);
    }

    private static RoomTest held(TwinLinks house) throws IllegalAccessException {
        RoomTest room = new RoomTest();
        Set<Object> seen = Collections.newSetFromMap(new IdentityHashMap<>());
        Deque<Object> open = new ArrayDeque<>();
        open.add(house);
        while (!open.isEmpty()) {
            Object one = open.remove();
            if (seen.add(one)) {
                room.objects++;
                room.lookInto(one, open);
            }
        }
        return room;
    }

    private void lookInto(Object one, Deque<Object> open) throws IllegalAccessException {
        if (one.getClass().isArray()) {
            boolean deep = !one.getClass().getComponentType().isPrimitive();
            cells += Array.getLength(one);
            for (int i = 0; deep && i < Array.getLength(one); i++) {
                addIfThere(open, Array.get(one, i));
            }
            return;
        }
        for (Field field : one.getClass().getDeclaredFields()) {
            if (!Modifier.isStatic(field.getModifiers())) {
                cells++;
                field.setAccessible(true);
                addIfThere(open, field.getType().isPrimitive() ? null : field.get(one));
            }
        }
    }

    private static void addIfThere(Deque<Object> open, Object one) {
        if (one != null) {
            open.add(one);
        }
    }
}
