import com.sun.management.ThreadMXBean;
import java.lang.management.ManagementFactory;
import java.lang.reflect.Array;
import java.lang.reflect.Field;
import java.lang.reflect.Modifier;
import java.util.ArrayDeque;
import java.util.Collections;
import java.util.IdentityHashMap;
import java.util.Set;

/** All calls of a run share one room: an object is small, and a call makes nothing but what row() throws. */
final class RoomTest {
    private static final int MOST_OBJECTS = 1000;
    private static final int MOST_FIELDS = 10000;
    private static final int ROUNDS = 20000;
    /** What the looking itself may take. */
    private static final int SPARE_BYTES = 4096;

    private final Set<Object> seen = Collections.newSetFromMap(new IdentityHashMap<>());
    private final ArrayDeque<Object> open = new ArrayDeque<>();
    private int fields;

    private RoomTest() {
    }

    public static void main(String[] args) throws IllegalAccessException {
        Check check = new Check("RoomTest");
        TransitSeals x = Twins.busy(check).x;
        RoomTest room = new RoomTest();
        room.measure(x);
        check.due("objects and arrays of one object, " + room.seen.size() + ", are few", room.seen.size() <= MOST_OBJECTS, true);
        check.due("their fields and elements, " + room.fields + ", are few", room.fields <= MOST_FIELDS, true);

        ThreadMXBean bean = (ThreadMXBean) ManagementFactory.getThreadMXBean();
        callAll(x);
        long before = bean.getCurrentThreadAllocatedBytes();
        for (int round = 0; round < ROUNDS; round++) {
            callAll(x);
        }
        long bytes = bean.getCurrentThreadAllocatedBytes() - before;
        check.due("calls make nothing (" + bytes + " bytes in all)", bytes <= SPARE_BYTES, true);
        check.close();
    }

    private void measure(Object first) throws IllegalAccessException {
        find(first);
        while (!open.isEmpty()) {
            Object o = open.poll();
            if (o.getClass().isArray()) {
                measureArray(o);
            } else {
                measureFields(o);
            }
        }
    }

    private void find(Object o) {
        if (o != null && seen.add(o)) {
            open.add(o);
        }
    }

    private void measureArray(Object array) {
        int length = Array.getLength(array);
        fields += length;
        for (int i = 0; i < length && !array.getClass().getComponentType().isPrimitive(); i++) {
            find(Array.get(array, i));
        }
    }

    private void measureFields(Object o) throws IllegalAccessException {
        for (Field f : o.getClass().getDeclaredFields()) {
            if (!Modifier.isStatic(f.getModifiers())) {
                fields++;
                f.setAccessible(true);
                if (!f.getType().isPrimitive()) {
                    find(f.get(o));
                }
            }
        }
    }

    /** Each call of the face once at least; a net, two traders and two movements anew each time. */
    private static void callAll(TransitSeals x) {
        net(x);
        x.trader(90000, 0);
        x.trader(5000, 2);
        starts(x);
        x.keeps();
        starts(x);
        x.stamps(0, 1);
        x.breaks(1);
        x.stamps(1, 1);
        x.controls(1, 3);
        x.hours(99);
        x.proves(0);
        x.pays(1);
        ask(x);
        x.sums(0, 9, 9);
        x.undo();
        x.back();
    }

    private static void net(TransitSeals x) {
        x.sign(0x30307c30);
        x.sign(0x2d313a35);
        x.sign(0x7c313000);
        x.end(11);
        x.net();
    }

    private static void starts(TransitSeals x) {
        x.sign(0x302d3100);
        x.end(3);
        x.starts(0, 0, 50);
    }

    private static void ask(TransitSeals x) {
        for (int i = -1; i < 13; i++) {
            x.road(0, i);
            x.way(0, i);
            x.routes(0, i);
            x.gates(0, i);
            x.office(0, i);
            x.movement(0, i);
            x.stop(0, i);
            x.book(0, i);
            x.written(i);
            x.count(i);
            x.states(i);
            x.owed(i);
            x.next(i);
            x.left(i);
            x.borders(i);
            x.asked(i);
            x.risk(i);
            x.inUse(i);
            x.owes(i);
            x.worth(i);
            x.can(i, 0);
            x.frees(i, 7000);
            x.when(i, 7000);
        }
        x.late();
        x.busiest();
        x.tightest();
        x.row(0);
        x.sign(0x303a3939);
        x.fits(0);
        x.sign(0x302d3100);
        x.end(3);
        x.detour();
    }
}
