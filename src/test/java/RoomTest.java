import java.lang.reflect.Array;
import java.lang.reflect.Field;
import java.lang.reflect.Modifier;
import java.util.ArrayDeque;
import java.util.Collections;
import java.util.Deque;
import java.util.IdentityHashMap;
import java.util.Set;

/** How much room an object takes, and that no call takes more. */
public final class RoomTest {
    private static final Check CHECK = new Check("RoomTest");
    private static int objects;
    private static int cells;

    public static void main(String[] args) throws IllegalAccessException {
        // The classes inside are loaded at their first use, which takes room of its own.
        askAll(new NinePence());
        allocated();
        NinePence x = new NinePence();
        countRoom(x);
        int atFirst = objects;
        int cellsAtFirst = cells;
        CHECK.due("at most 100 objects", objects <= 100 ? 1 : 0, 1);
        CHECK.due("at most 20000 fields and elements", cells <= 20000 ? 1 : 0, 1);
        long before = allocated();
        long spent = allocated() - before;
        before = allocated();
        askAll(x);
        // Reading the meter takes some bytes itself; one small object a call would be well above 16000.
        CHECK.due("bytes that the calls took are few", allocated() - before - spent <= 4000 ? 1 : 0, 1);
        countRoom(x);
        CHECK.due("objects behind the calls", objects, atFirst);
        CHECK.due("fields and elements behind the calls", cells, cellsAtFirst);
        System.out.println("RoomTest: " + objects + " objects, " + cells + " fields and elements");
        CHECK.finish();
    }

    private static long allocated() {
        return ((com.sun.management.ThreadMXBean) java.lang.management.ManagementFactory.getThreadMXBean())
            .getCurrentThreadAllocatedBytes();
    }

    // Tells left 21 0 0 0 until the book is full and longer, and asks everything each time.
    private static void askAll(NinePence x) {
        for (int i = 0; i < 40; i++) {
            x.write(0x3132207466656cL, 7);
            x.write(0x3020302030202020L, 8);
            x.fault();
            x.book();
            x.erase();
            x.entry(i, 1);
            x.out(-1);
            x.off(0);
            x.odds(0, 0);
            x.learn(0, i % 5);
            x.mend(i, i % 2, 12 + i);
            x.signs();
            x.one(0, 0, i % 2 == 0);
            x.ofKind(5);
            x.two(1);
            x.hide(1);
            x.pair(true, 3);
            x.chance(0, 1);
            x.whose(0, 1);
            x.look(0, false);
            x.mean(true, 1);
            x.judge(0, 0, 21);
            x.other(21);
            x.match(Math.min(i, 12), -1);
            x.match(Math.min(i, 12), 0);
            x.count(0);
        }
        x.strike(0);
    }

    private static void countRoom(Object root) throws IllegalAccessException {
        objects = 0;
        cells = 0;
        Set<Object> seen = Collections.newSetFromMap(new IdentityHashMap<>());
        Deque<Object> open = new ArrayDeque<>();
        open.add(root);
        while (!open.isEmpty()) {
            Object object = open.remove();
            if (!seen.add(object)) {
                continue;
            }
            objects++;
            if (object.getClass().isArray()) {
                cells += Array.getLength(object);
            } else {
                addFields(object, open);
            }
        }
    }

    private static void addFields(Object object, Deque<Object> open) throws IllegalAccessException {
        for (Field field : object.getClass().getDeclaredFields()) {
            if (!Modifier.isStatic(field.getModifiers())) {
                cells++;
                field.setAccessible(true);
                Object value = field.getType().isPrimitive() ? null : field.get(object);
                if (value != null) {
                    open.add(value);
                }
            }
        }
    }
}
