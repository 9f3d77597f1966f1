import java.lang.management.ManagementFactory;
import java.lang.reflect.Array;
import java.lang.reflect.Field;
import java.lang.reflect.Modifier;
import java.util.IdentityHashMap;
import java.util.Map;
import java.util.Random;

/** What one object holds, and that its calls make nothing: all calls of a run live in one room. */
public final class RoomTest {
    private static final int MOST_OBJECTS = 100;
    private static final int MOST_ELEMENTS = 15000;
    private static final int ROADS = 50;

    private final Map<Object, Object> objects = new IdentityHashMap<>();
    private long elements = 0;

    public static void main(String[] args) throws IllegalAccessException {
        Checks checks = new Checks();
        RoadOfDoors x = new RoadOfDoors(8);
        RoomTest room = new RoomTest();
        room.count(x);
        System.out.println(room.objects.size() + " objects and arrays, " + room.elements + " fields and elements");
        checks.due("few objects", room.objects.size() <= MOST_OBJECTS, true);
        checks.due("few elements", room.elements <= MOST_ELEMENTS, true);
        calls(x, 1);
        checks.due("calls make nothing", made() < 20000, true);
        checks.end();
    }

    private void count(Object one) throws IllegalAccessException {
        if (one == null || objects.put(one, one) != null) {
            return;
        }
        if (one.getClass().isArray()) {
            elements += Array.getLength(one);
            for (int i = 0; i < Array.getLength(one) && one instanceof Object[]; i++) {
                count(Array.get(one, i));
            }
            return;
        }
        for (Field field : one.getClass().getDeclaredFields()) {
            if (!Modifier.isStatic(field.getModifiers())) {
                elements++;
                field.setAccessible(true);
                if (!field.getType().isPrimitive()) {
                    count(field.get(one));
                }
            }
        }
    }

    /** Bytes made while some 20000 calls are done; the machine's own are few. */
    private static long made() {
        RoadOfDoors[] roads = new RoadOfDoors[ROADS];
        for (int i = 0; i < ROADS; i++) {
            roads[i] = new RoadOfDoors(8);
        }
        com.sun.management.ThreadMXBean threads =
                (com.sun.management.ThreadMXBean) ManagementFactory.getThreadMXBean();
        long id = Thread.currentThread().getId();
        long before = threads.getThreadAllocatedBytes(id);
        for (RoadOfDoors x : roads) {
            calls(x, 4);
        }
        return threads.getThreadAllocatedBytes(id) - before;
    }

    private static void calls(RoadOfDoors x, int times) {
        Random r = new Random(5);
        for (int i = 0; i < times; i++) {
            x.end(0);
            x.feed(0x6f70656e, 0x73206769, 0x66743e3d, 0x33206f72, 0x20776169);
            x.feed(0x7465643e, 0x383b7761, 0x69742031, 0x3b6b6e6f, 0x636b2031);
            x.feed(0x20776974, 0x6820343b, 0x62616421, 0, 0);
            x.end(i % 2 == 0 ? 48 : 60);
            x.text();
            for (int door = 0; door < 8; door++) {
                x.keep(door, r.nextInt(5) - 1);
                x.hinge(door, r.nextInt(9) > 0);
                x.mood(door, r.nextInt(10));
                x.knock(1 + r.nextInt(7), r.nextInt(6));
                x.opens(door, 1, 1, 3, 0, 0);
                x.seen(door, 1, 1, 3, 0, true);
                x.kept(door, 2);
                x.earns(door);
            }
            x.guest(i % 10, 0, i % 24, 99);
            x.sets(1, 1, 1, 50);
            for (int text = 0; text < 4; text++) {
                x.played(text);
            }
            x.later(24);
            x.undo();
            x.way(1, 2, 3, 48, 99, i % 2 == 0, -1);
            x.even();
            x.rounds(i % 9 - 1);
            x.moods(i);
            x.rain(i % 24, i % 10);
            x.image();
            x.back();
            x.clear();
            x.about(i % 60);
            x.fault(0);
            x.traveller(i % 6);
        }
    }
}
