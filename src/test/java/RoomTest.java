import java.lang.management.ManagementFactory;
import java.lang.reflect.Array;
import java.lang.reflect.Field;
import java.lang.reflect.Modifier;
import java.util.Collections;
import java.util.IdentityHashMap;
import java.util.Set;

/** All calls of one run live in one room: what an object holds is made with it, and no call makes more. */
public final class RoomTest {
    private static final int MOST_OBJECTS = 2000;
    private static final int MOST_ELEMENTS = 200000;
    private static int objects;
    private static int elements;

    private RoomTest() {
    }

    public static void main(String[] args) throws IllegalAccessException {
        HallRegisters x = new HallRegisters();
        count(x);
        Check.due(objects + " objects and arrays", objects <= MOST_OBJECTS, true);
        Check.due(elements + " fields and elements", elements <= MOST_ELEMENTS, true);
        int made = objects;
        long before = 0;
        for (int round = 0; round < 60; round++) {
            // the first rounds are for what the machine makes itself
            before = round == 20 ? allocated() : before;
            x = round < 20 ? new HallRegisters() : x;
            calls(x, round % 4);
        }
        long bytes = allocated() - before;
        System.out.println(made + " objects and arrays, " + elements + " fields and elements, " + bytes + " bytes made by calls");
        Check.due("40 rounds of calls made " + bytes + " bytes", bytes < 20000, true);
        count(x);
        Check.due("objects and arrays behind all calls", objects, made);
        Check.finish("RoomTest");
    }

    private static long allocated() {
        return ManagementFactory.getThreadMXBean() instanceof com.sun.management.ThreadMXBean bean
            ? bean.getThreadAllocatedBytes(Thread.currentThread().getId()) : 0;
    }

    /** Some calls of each kind; what they answer is another test's. */
    private static void calls(HallRegisters x, int kind) {
        x.kind(kind);
        x.tail(3, 1, 5, 1);
        x.undo();
        x.set(0, 1, 7);
        x.set(0, 2, -5);
        x.set(1, 2, 3);
        x.multiply(2, 0, 1);
        x.power(3, 2, 5);
        x.root(4, 3, 5);
        x.commute(4, 1, 0);
        x.conjugate(5, 0, 1);
        x.invert(6, 0);
        x.seek(7, 0, 5, 3);
        x.alike(0, 5);
        x.ball(4);
        for (int what = 0; what <= 9; what++) {
            x.register(2, what);
            x.look(what);
            x.both(0, 1, what);
            x.shape(3, what);
        }
        x.powers(0, 3, 2);
        x.associates(0, 1, 2);
        x.feed(0x5b5b622c, 0x615d5e32, 0x2c285230, 0x61295d20, 0x20202020);
        x.text(8);
        x.feed(0x63626163, 0x62616362, 0x61636261, 0x63626163, 0x62616362);
        x.collect();
        x.image(true);
        x.group(2, 5);
        x.image(false);
    }

    private static void count(Object from) throws IllegalAccessException {
        objects = 0;
        elements = 0;
        count(from, Collections.newSetFromMap(new IdentityHashMap<>()));
    }

    private static void count(Object object, Set<Object> seen) throws IllegalAccessException {
        if (object == null || !seen.add(object)) {
            return;
        }
        objects++;
        if (object.getClass().isArray()) {
            int length = Array.getLength(object);
            elements += length;
            for (int at = 0; at < length && !object.getClass().getComponentType().isPrimitive(); at++) {
                count(Array.get(object, at), seen);
            }
            return;
        }
        for (Field field : object.getClass().getDeclaredFields()) {
            if (Modifier.isStatic(field.getModifiers())) {
                continue;
            }
            elements++;
            if (!field.getType().isPrimitive()) {
                field.setAccessible(true);
                count(field.get(object), seen);
            }
        }
    }
}
