import java.lang.management.ManagementFactory;
import java.lang.reflect.Array;
import java.lang.reflect.Field;
import java.lang.reflect.Modifier;
import java.util.IdentityHashMap;

/** How much room an object takes: all calls of a run share one, so the rows are made once and used again. */
public final class RoomTest {
    private static final int MOST_OBJECTS = 100;
    private static final int MOST_PLACES = 600;
    private final IdentityHashMap<Object, Boolean> seen = new IdentityHashMap<>();
    private int places = 0;

    public static void main(String[] args) throws Exception {
        newObjectIsSmall();
        usedObjectIsNoLarger();
        callsMakeNoObjects();
        Check.end();
    }

    private static void newObjectIsSmall() throws Exception {
        RoomTest room = new RoomTest();
        room.walk(new MarketDesk());
        System.out.println(room.seen.size() + " objects and arrays, " + room.places + " fields and elements");
        Check.same("few objects", true, room.seen.size() <= MOST_OBJECTS);
        Check.same("few fields and elements", true, room.places <= MOST_PLACES);
    }

    private static void usedObjectIsNoLarger() throws Exception {
        RoomTest fresh = new RoomTest();
        fresh.walk(new MarketDesk());
        MarketDesk x = Desks.full();
        Picture.whole(x);
        RoomTest used = new RoomTest();
        used.walk(x);
        Check.same("objects after use", fresh.seen.size(), used.seen.size());
        Check.same("fields and elements after use", fresh.places, used.places);
    }

    /** Counts an object that was not counted yet, its fields or elements, and all that these hold. */
    private void walk(Object object) throws Exception {
        if (object == null || seen.put(object, true) != null) {
            return;
        }
        if (object.getClass().isArray()) {
            boolean ofObjects = !object.getClass().getComponentType().isPrimitive();
            places += Array.getLength(object);
            for (int i = 0; ofObjects && i < Array.getLength(object); i++) {
                walk(Array.get(object, i));
            }
            return;
        }
        for (Field field : object.getClass().getDeclaredFields()) {
            if (!Modifier.isStatic(field.getModifiers())) {
                places++;
                field.setAccessible(true);
                if (!field.getType().isPrimitive()) {
                    walk(field.get(object));
                }
            }
        }
    }

    private static void callsMakeNoObjects() {
        var threads = (com.sun.management.ThreadMXBean) ManagementFactory.getThreadMXBean();
        long thread = Thread.currentThread().getId();
        // Once before, since what is used for the first time makes objects of its own.
        threads.getThreadAllocatedBytes(thread);
        useAll(new MarketDesk());
        MarketDesk x = new MarketDesk();
        long before = threads.getThreadAllocatedBytes(thread);
        useAll(x);
        long made = threads.getThreadAllocatedBytes(thread) - before;
        Check.same("bytes made by calls that are not refused: " + made, true, made < 100);
    }

    private static void useAll(MarketDesk x) {
        for (int i = 0; i < 3; i++) {
            x.buyer(20);
            x.good();
        }
        for (int round = 0; round < 10; round++) {
            for (int i = 0; i < 9; i++) {
                x.value(i / 3, i % 3, 1 + (i * round) % 4);
            }
            x.money(0, 1 + round);
            x.solve();
            for (int i = 0; i < 3; i++) {
                x.tryPrice(i, (int) x.price(i, false), (int) x.price(i, true));
                x.best(i, 1, false);
                x.likes(i, 0);
                x.spent(i, 1, 1, true);
                x.told(i, -1);
            }
            x.test();
            x.ready();
            x.undo();
            x.count(true);
        }
        for (int i = 0; i < 9; i++) {
            x.value(i / 3, i % 3, 1);
        }
        x.join(1, 2);
    }
}
