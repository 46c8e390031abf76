import java.lang.reflect.Array;
import java.lang.reflect.Field;
import java.lang.reflect.Modifier;
import java.util.ArrayDeque;
import java.util.Collections;
import java.util.IdentityHashMap;
import java.util.Set;

/**
 * All calls of one run live in one room, so an object makes its rows once and uses them again: what it
 * holds behind the dearest 512 calls is counted, object by object.
 */
public final class RoomTest {
    private static final int CALLS = 512;
    private static final int MOST_OBJECTS = 1000;
    private static final int MOST_ELEMENTS = 60000;
    private int objects;
    private int elements;

    private RoomTest() {
    }

    public static void main(String[] args) throws Exception {
        ReplicaChain x = new ReplicaChain();
        int calls = lay(x);
        for (int box = 0; box < 3; box++) {
            x.image(box);
            calls++;
        }
        RoomTest early = of(x);
        while (calls < CALLS / 2) {
            calls += act(x, calls);
        }
        RoomTest half = of(x);
        while (calls < CALLS - 8) {
            calls += act(x, calls);
        }
        RoomTest full = of(x);
        Check.yes("objects at most " + MOST_OBJECTS + ": " + full.objects, full.objects <= MOST_OBJECTS);
        Check.yes("elements at most " + MOST_ELEMENTS + ": " + full.elements, full.elements <= MOST_ELEMENTS);
        Check.yes("acts are kept, so more is held: " + early.objects, early.objects < half.objects);
        Check.same("objects, once all acts that can be are kept", full.objects, half.objects);
        Check.same("elements, once all acts that can be are kept", full.elements, half.elements);
        Check.finish("RoomTest");
    }

    private static int lay(ReplicaChain x) {
        String text = "member a; member b; member c; member d; member e; spare f; spare g; spare h; "
                + "key x; slow 1 + (tick + from * to + under) % 4; copy 1; loss 3; draw 5;";
        Told.lay(x, text);
        Check.same("a chain of five", x.chain(), 5);
        return (text.length() + 19) / 20 + 3;
    }

    /** How many calls were made. */
    private static int act(ReplicaChain x, int turn) {
        x.write(0, turn % 100);
        x.tick();
        x.image(turn % 3);
        x.soonest();
        x.seen(turn % 61, true);
        x.join(5 + turn % 3);
        if (turn % 5 == 0) {
            x.undo();
        }
        return turn % 5 == 0 ? 7 : 6;
    }

    private static RoomTest of(ReplicaChain x) throws Exception {
        RoomTest room = new RoomTest();
        Set<Object> known = Collections.newSetFromMap(new IdentityHashMap<>());
        ArrayDeque<Object> todo = new ArrayDeque<>();
        meet(x, known, todo);
        while (!todo.isEmpty()) {
            Object o = todo.poll();
            room.objects++;
            if (o.getClass().isArray()) {
                room.countArray(o, known, todo);
            } else {
                room.countFields(o, known, todo);
            }
        }
        return room;
    }

    private static void meet(Object o, Set<Object> known, ArrayDeque<Object> todo) {
        if (o != null && !(o instanceof String) && known.add(o)) {
            todo.add(o);
        }
    }

    private void countArray(Object array, Set<Object> known, ArrayDeque<Object> todo) {
        elements += Array.getLength(array);
        if (array instanceof Object[]) {
            for (Object o : (Object[]) array) {
                meet(o, known, todo);
            }
        }
    }

    private void countFields(Object o, Set<Object> known, ArrayDeque<Object> todo) throws Exception {
        for (Field f : o.getClass().getDeclaredFields()) {
            if (Modifier.isStatic(f.getModifiers())) {
                continue;
            }
            elements++;
            if (!f.getType().isPrimitive()) {
                f.setAccessible(true);
                meet(f.get(o), known, todo);
            }
        }
    }
}
