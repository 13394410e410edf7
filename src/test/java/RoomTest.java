import java.lang.management.ManagementFactory;
import java.lang.reflect.Array;
import java.lang.reflect.Field;
import java.lang.reflect.Modifier;
import java.util.ArrayDeque;
import java.util.Collections;
import java.util.Deque;
import java.util.IdentityHashMap;
import java.util.Set;

/** All calls of one run live in one room: what an object is made of is counted, and calls make nothing more. */
final class RoomTest {
    private static final Check CHECK = new Check();

    public static void main(String[] args) throws IllegalAccessException {
        objectIsSmall();
        callsMakeNothing();
        CHECK.finish();
    }

    private static void objectIsSmall() throws IllegalAccessException {
        Set<Object> seen = Collections.newSetFromMap(new IdentityHashMap<>());
        Deque<Object> left = new ArrayDeque<>();
        left.add(new MoonDebts());
        int parts = 0;
        while (!left.isEmpty()) {
            Object one = left.remove();
            if (!seen.add(one)) {
                continue;
            }
            if (one.getClass().isArray()) {
                parts += Array.getLength(one);
                for (int i = 0; i < Array.getLength(one) && !one.getClass().getComponentType().isPrimitive(); i++) {
                    left.add(Array.get(one, i));
                }
                continue;
            }
            for (Field f : one.getClass().getDeclaredFields()) {
                if (!Modifier.isStatic(f.getModifiers())) {
                    parts++;
                    f.setAccessible(true);
                    if (!f.getType().isPrimitive()) {
                        left.add(f.get(one));
                    }
                }
            }
        }
        CHECK.yes("objects and arrays: " + seen.size(), seen.size() <= 100);
        CHECK.yes("fields and elements: " + parts, parts <= 3000);
    }

    private static void callsMakeNothing() {
        com.sun.management.ThreadMXBean threads = (com.sun.management.ThreadMXBean) ManagementFactory.getThreadMXBean();
        long me = Thread.currentThread().getId();
        long most = 0;
        // The first rounds make what the machine itself needs.
        for (int round = 0; round < 3; round++) {
            MoonDebts x = Check.landOf("moon 5 3;strike 5 2;wait 3;" + Check.sorts(6) + Check.turns(12, 3) + "spare purse;spare gift;");
            long ahead = threads.getThreadAllocatedBytes(me);
            for (int i = 0; i < 20; i++) {
                manyCalls(x, i);
            }
            most = threads.getThreadAllocatedBytes(me) - ahead;
        }
        CHECK.yes("bytes that 20 times 24 calls made: " + most, most < 4096);
    }

    private static void manyCalls(MoonDebts x, int i) {
        x.lend(1, i % 5, 1, 10);
        x.go(9);
        x.entry(i, 1, 1000);
        x.judge(i);
        x.market(i);
        x.loan(0, i);
        x.image(i % 3);
        x.on(i % 3);
        x.feed(i, i, i, i, i);
        x.fault();
        x.land();
        x.end(i);
        x.best(i % 3);
        x.moon(i % 17, 1, 0);
        x.gains(i % 6);
        x.lent(-1, i);
        x.brought(i);
        x.back(0, i, 1);
        x.round(i % 5, 0);
        x.words(i, 100);
        x.purse(i, 1);
        x.shrunk(i, 1000 + i % 10, 8, 20);
        x.cloudy(12, i % 13);
        x.names(60, i % 17);
    }
}
