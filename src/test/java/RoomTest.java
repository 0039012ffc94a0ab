import com.sun.management.ThreadMXBean;
import java.lang.management.ManagementFactory;
import java.lang.reflect.Array;
import java.lang.reflect.Field;
import java.lang.reflect.Modifier;
import java.util.ArrayDeque;
import java.util.Collections;
import java.util.Deque;
import java.util.IdentityHashMap;
import java.util.Set;

/** All calls of a run live in one room: what an object takes, and that no call takes more. */
public final class RoomTest {
    private static final int CALLS = 512;
    private static final int OBJECTS = 600_000;
    private static final int ELEMENTS = 7_300_000;

    private final Set<Object> seen = Collections.newSetFromMap(new IdentityHashMap<>());
    private final Deque<Object> open = new ArrayDeque<>();
    private int elements = 0;

    public static void main(String[] args) throws IllegalAccessException {
        Due due = new Due("RoomTest");
        RoomTest room = new RoomTest();
        room.walk(new StageLines());
        System.out.println("RoomTest: an object takes " + room.seen.size() + " objects, " + room.elements + " elements");
        due.holds("objects, were every call a new one", room.seen.size() * CALLS < OBJECTS);
        due.holds("elements, were every call a new one", room.elements * CALLS < ELEMENTS);
        long sum = callsOf(new StageLines());
        ThreadMXBean threads = (ThreadMXBean) ManagementFactory.getThreadMXBean();
        StageLines x = new StageLines();
        long before = threads.getCurrentThreadAllocatedBytes();
        long again = callsOf(x);
        long after = threads.getCurrentThreadAllocatedBytes();
        due.holds("calls make " + (after - before) + " bytes of objects", after == before);
        due.holds("the same calls give the same answers", sum == again);
        due.close();
    }

    private void walk(Object first) throws IllegalAccessException {
        meet(first);
        while (!open.isEmpty()) {
            Object one = open.pop();
            if (one.getClass().isArray()) {
                elements += Array.getLength(one);
                for (int i = 0; i < Array.getLength(one) && !one.getClass().getComponentType().isPrimitive(); i++) {
                    meet(Array.get(one, i));
                }
                continue;
            }
            for (Field f : one.getClass().getDeclaredFields()) {
                if (Modifier.isStatic(f.getModifiers())) {
                    continue;
                }
                elements++;
                f.setAccessible(true);
                if (!f.getType().isPrimitive()) {
                    meet(f.get(one));
                }
            }
        }
    }

    private void meet(Object one) {
        if (one != null && seen.add(one)) {
            open.push(one);
        }
    }

    /** Every call, with as much to do as can be. */
    private static long callsOf(StageLines x) {
        long sum = 0;
        for (int i = 0; i < 12; i++) {
            sum += x.load(3, i % 2, 1 + i) + x.move(i % 10, 5 * i, 5 * i, 1 + i % 5) + x.set(i % 10, 1, 3 * i);
        }
        for (int i = 0; i < 12; i++) {
            sum = 31 * sum + x.loading(3, i - 1) + x.loadings(3) + x.told(i, i % 9) + x.height(i, 25 * i);
            sum = 31 * sum + x.strike(i, 3, 5) + x.clash(i, i % 3) + x.often(i, 4) + x.hands(i % 3) + x.crew(i % 10, 0);
            sum = 31 * sum + x.image(i % 2) + x.restore(i % 2) + x.count(i % 6) + x.bar(i, i) + x.set(0, 2, i % 4);
        }
        return 31 * sum + x.take(3, 0, 2) + x.shift(4, 1) + x.drop(3);
    }
}
