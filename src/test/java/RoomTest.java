import java.lang.management.ManagementFactory;
import java.lang.reflect.Array;
import java.lang.reflect.Field;
import java.lang.reflect.InaccessibleObjectException;
import java.lang.reflect.Modifier;
import java.util.IdentityHashMap;
import java.util.Map;

/** How much room an object takes, and that calls take none behind it. */
public final class RoomTest {
    private static final int MOST_OBJECTS = 200;
    private static final int MOST_ELEMENTS = 20000;
    private static long elements = 0;

    public static void main(String[] args) throws IllegalAccessException {
        CageLift x = new CageLift();
        Map<Object, Object> met = new IdentityHashMap<>();
        walk(x, met);
        System.out.println(met.size() + " objects, " + elements + " fields and elements");
        boolean good = met.size() <= MOST_OBJECTS && elements <= MOST_ELEMENTS;

        // Once before, so that classes are loaded.
        allCalls(new CageLift());
        com.sun.management.ThreadMXBean own = (com.sun.management.ThreadMXBean) ManagementFactory.getThreadMXBean();
        long id = Thread.currentThread().getId();
        long nothing = own.getThreadAllocatedBytes(id);
        nothing = own.getThreadAllocatedBytes(id) - nothing;
        long before = own.getThreadAllocatedBytes(id);
        allCalls(x);
        long taken = own.getThreadAllocatedBytes(id) - before - nothing;
        System.out.println(taken + " bytes taken by calls");
        good &= taken <= 64;
        if (!good) System.exit(1);
    }

    private static void walk(Object o, Map<Object, Object> met) throws IllegalAccessException {
        if (o == null || o instanceof String || met.put(o, o) != null) return;
        if (o.getClass().isArray()) {
            elements += Array.getLength(o);
            if (o instanceof Object[] all) for (Object part : all) walk(part, met);
            return;
        }
        for (Field f : o.getClass().getDeclaredFields()) {
            if (Modifier.isStatic(f.getModifiers())) continue;
            elements++;
            if (f.getType().isPrimitive()) continue;
            try {
                f.setAccessible(true);
            } catch (InaccessibleObjectException e) {
                continue;
            }
            walk(f.get(o), met);
        }
    }

    private static void allCalls(CageLift x) {
        // works cyclic 5 twist 2;places 2;arc 0 0 by 1;arc 0 1 by 0;arc 1 1 by 2;
        x.feed(2003792491, 1931502457, 1668049251, 540352628, 2003399540);
        x.feed(540162928, 1818321765, 1931489851, 1634886432, 807415840);
        x.feed(1652105265, 996242019, 540024881, 543324448, 809197938);
        x.feed(1663054112, 824205945, 540162848, 538976288, 538976288);
        x.works(71);
        for (int i = -1; i < 9; i++) {
            x.fault(i); x.arc(i, i); x.product(i, i); x.inverse(i); x.orderOf(i); x.centre(); x.turn(i, i); x.cut(i);
            x.twist(i); x.undo(i); x.numbers(i, i, i); x.write(i, i, i); x.judge(i, i); x.perform(i); x.day(i, i);
            x.joins(i, i); x.degree(i); x.neighbour(i, i); x.regular(); x.parts(); x.twoColours(); x.far(i, i);
            x.diameter(); x.ball(i, i); x.girth(); x.ring(i); x.rings(i); x.through(i); x.bound(i, i); x.excess();
            x.light(i, i); x.lightest(); x.walk(i); x.lifted(i); x.tune(i); x.tuned(i); x.search(3, 5, i, 1);
            x.found(3, 5, i, 0, 0); x.twists(i); x.weigh(i); x.chance(i, i, 0); x.mean(i, 0); x.lists(i);
            x.image(i); x.restore(i); x.count(i);
        }
        x.works(0);
    }
}
