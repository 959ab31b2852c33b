import com.sun.management.ThreadMXBean;
import java.lang.management.ManagementFactory;
import java.lang.reflect.Array;
import java.lang.reflect.Field;
import java.lang.reflect.Modifier;
import java.util.ArrayDeque;
import java.util.Collections;
import java.util.IdentityHashMap;
import java.util.Set;

/** What an object needs of the room in which all calls live, and that calls need nothing of it. */
public final class RoomTest {
    /** Even 512 objects in one run then stay far inside 600,000 objects and 7.3 million elements. */
    private static final int MOST_OBJECTS = 150;
    private static final int MOST_ELEMENTS = 5000;
    private static final int ROUNDS = 2000;

    private static final Check CHECK = new Check("room");

    public static void main(String[] args) throws IllegalAccessException {
        PlaneMaps x = new PlaneMaps();
        countObject(x);
        useAll(x);
        countObject(x);
        countCalls(x);
        CHECK.end();
    }

    private static void countObject(PlaneMaps x) throws IllegalAccessException {
        Set<Object> seen = Collections.newSetFromMap(new IdentityHashMap<>());
        ArrayDeque<Object> waiting = new ArrayDeque<>();
        seen.add(x);
        waiting.add(x);
        int elements = 0;
        while (!waiting.isEmpty()) {
            Object one = waiting.remove();
            if (one.getClass().isArray()) {
                elements += Array.getLength(one);
                for (int i = 0; i < Array.getLength(one) && one instanceof Object[]; i++) {
                    note(Array.get(one, i), seen, waiting);
                }
                continue;
            }
            for (Field field : one.getClass().getDeclaredFields()) {
                if (!Modifier.isStatic(field.getModifiers())) {
                    elements++;
                    field.setAccessible(true);
                    if (!field.getType().isPrimitive()) {
                        note(field.get(one), seen, waiting);
                    }
                }
            }
        }
        System.out.println("an object is " + seen.size() + " objects, " + elements + " elements");
        CHECK.due("few objects", seen.size() <= MOST_OBJECTS, true);
        CHECK.due("few elements", elements <= MOST_ELEMENTS, true);
    }

    private static void note(Object one, Set<Object> seen, ArrayDeque<Object> waiting) {
        if (one != null && seen.add(one)) {
            waiting.add(one);
        }
    }

    private static void countCalls(PlaneMaps x) {
        ThreadMXBean threads = (ThreadMXBean) ManagementFactory.getThreadMXBean();
        long thread = Thread.currentThread().getId();
        for (int i = 0; i < ROUNDS; i++) {
            useAll(x);
        }
        threads.getThreadAllocatedBytes(thread);
        long before = threads.getThreadAllocatedBytes(thread);
        for (int i = 0; i < ROUNDS; i++) {
            useAll(x);
        }
        long made = threads.getThreadAllocatedBytes(thread) - before;
        System.out.println(ROUNDS + " rounds of all calls made " + made + " bytes");
        CHECK.due("calls make no object", made < ROUNDS, true);
    }

    private static void useAll(PlaneMaps x) {
        x.count(14, -1);
        x.trees(8);
        x.tree(0, 8, 4711331);
        x.rank(0);
        x.shape(0, 4, 3);
        int point = x.turn(0, 0, 1);
        x.back(0, point, 1);
        x.halve(0, 1);
        x.redouble(1, 2);
        x.of(0, 7);
        x.dart(0, 3, 1);
        x.degree(0, 0, 1);
        x.distance(0, 1, 3);
        x.ring(0, 1, 2);
        x.code(0, 9);
        x.alike(0, 2, 1);
        x.alike(0, 2, 2);
        x.rootings(0);
        for (int how = 0; how <= 5; how++) {
            x.change(0, how, 4, 3);
        }
        for (int i = -1; i < 40; i += 20) {
            x.shown(0, i);
        }
        x.feed(674242609, 687865856, 0, 0, 0);
        x.end(5);
        x.map(3);
        x.feed(674242608, 687865856, 0, 0, 0);
        x.map(3);
        x.fault(0);
        x.look(2);
    }
}
