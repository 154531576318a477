import java.lang.management.ManagementFactory;
import java.lang.reflect.Array;
import java.lang.reflect.Field;
import java.lang.reflect.Modifier;
import java.util.Collections;
import java.util.IdentityHashMap;
import java.util.Set;

/** What an object needs of the room that all calls of a run share: it is made once, and no call makes anything more. */
public final class Room {
    private static final int CALLS = 512, OBJECTS = 600000, ELEMENTS = 7300000;
    private static final Set<Object> SEEN = Collections.newSetFromMap(new IdentityHashMap<>());
    private static long elements = 0;

    public static void main(String[] args) throws IllegalAccessException {
        int failed = 0;
        measure(new NameReaders());
        System.out.println("an object: " + SEEN.size() + " objects, " + elements + " fields and elements");
        if ((long) SEEN.size() * CALLS > OBJECTS || elements * CALLS > ELEMENTS) {
            failed++;
            System.out.println("new objects at every call would not fit");
        }
        NameReaders x = new NameReaders();
        use(x);
        use(x);
        com.sun.management.ThreadMXBean bean = (com.sun.management.ThreadMXBean) ManagementFactory.getThreadMXBean();
        long thread = Thread.currentThread().getId();
        bean.getThreadAllocatedBytes(thread);
        long before = bean.getThreadAllocatedBytes(thread);
        use(x);
        long made = bean.getThreadAllocatedBytes(thread) - before;
        // the measuring itself may make a little
        if (made > 1000) {
            failed++;
            System.out.println("calls made " + made + " bytes");
        }
        if (x.count(4) != 5 || x.count(5) != 5 || x.count(0) != 12) {
            failed++;
            System.out.println("the calls were not those that were meant");
        }
        System.out.println((3 - failed) + " passed, " + failed + " failed");
        if (failed != 0) System.exit(1);
    }

    private static void measure(Object o) throws IllegalAccessException {
        if (o == null || !SEEN.add(o)) return;
        if (o.getClass().isArray()) {
            int n = Array.getLength(o);
            elements += n;
            for (int i = 0; i < n && !o.getClass().getComponentType().isPrimitive(); i++) measure(Array.get(o, i));
            return;
        }
        for (Field field : o.getClass().getDeclaredFields()) {
            if (Modifier.isStatic(field.getModifiers())) continue;
            elements++;
            field.setAccessible(true);
            if (!field.getType().isPrimitive()) measure(field.get(o));
        }
    }

    private static long word(int from, int letter) {
        // "0 a any " with another state and letter
        return 0x20796e61_20612030L + from + ((long) letter << 16);
    }

    private static void use(NameReaders x) {
        for (int r = 0; r < 2; r++) {
            x.reader(r, 2, 2, 2);
            for (int i = 0; i < 6; i++) {
                x.erase();
                x.write(word(i % 2, i % 3), 8);
                x.write(0x20302070_65656bL, 7);
                x.write(0x31206f74L, 4);
                x.fault(r);
                x.moves(r);
            }
            x.move(r, 1, 1);
            x.drop(r, 5);
            x.hush();
            for (int i = 0; i < 12; i++) x.pair(i % 3, i % 7);
            x.change(3, 1, 1);
            x.taken(r);
            x.may(r, 12);
            x.runs(r);
            x.run(r, 3);
            x.shapes(r, 5, 3);
            x.shape(r, 4, 2, 5, 1);
            x.least(r);
            x.first(r, 0);
            x.useless(r);
            x.twofold(r);
            x.both();
            x.parted(5, 0);
            x.mend(r);
            x.change(3, -1, -1);
            x.change(7, -1, -1);
            x.fillings(r);
            x.filled(r, 0);
            x.count(2);
        }
    }
}
