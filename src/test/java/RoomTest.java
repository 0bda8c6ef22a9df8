import java.lang.management.ManagementFactory;
import java.lang.reflect.Array;
import java.lang.reflect.Field;
import java.lang.reflect.Modifier;
import java.util.ArrayDeque;
import java.util.Collections;
import java.util.IdentityHashMap;
import java.util.Set;

/** All calls of one run, 512 at most, live in one room, together with the object that they are made on. */
public final class RoomTest {
    private static final Check CHECK = new Check();
    private static final int MOST_OBJECTS = 600000;
    private static final int MOST_PARTS = 7300000;
    /** Crowding the object takes some of its 512 calls. */
    private static final int CALLS = 350;
    /** 512 times so many bytes are neither 600,000 objects, of 16 bytes at least, nor 7.3 million elements. */
    private static final long BYTES_A_CALL = 14000;

    private interface Call {
        int of(FlumeOrders x, int i);
    }

    public static void main(String[] args) {
        sizeOfANewObject();
        callsMakeLittle("later", 1, (x, i) -> x.later(2000, i % 6));
        callsMakeLittle("run", 1, (x, i) -> x.run(2000));
        callsMakeLittle("image and back", 2, (x, i) -> {
            x.image();
            return x.back() ? 1 : 0;
        });
        callsMakeLittle("feed and fits", 3, (x, i) -> {
            x.feed(0x31323334, 0x35360000, 0, 0, 0);
            x.end(6);
            return x.fits(i % 7 - 1);
        });
        callsMakeLittle("plan", 1, (x, i) -> x.plan(-1));
        callsMakeLittle("waits", 1, (x, i) -> x.waits(12, 9, 1, 1, 9));
        callsMakeLittle("test", 1, (x, i) -> x.test(-1));
        callsMakeLittle("repeats", 1, (x, i) -> x.repeats(0, 12, 0));
        callsMakeLittle("texts of chips", 23, RoomTest::readChip);
        callsMakeLittle("texts of the forest", 20, RoomTest::readForest);
        CHECK.over("RoomTest");
    }

    private static void sizeOfANewObject() {
        Set<Object> seen = Collections.newSetFromMap(new IdentityHashMap<>());
        ArrayDeque<Object> open = new ArrayDeque<>();
        open.add(new FlumeOrders());
        long parts = 0;
        while (!open.isEmpty()) {
            Object o = open.poll();
            if (!seen.add(o) || o instanceof Enum || o instanceof String) {
                continue;
            }
            parts += o.getClass().isArray() ? elements(o, open) : fields(o, open);
        }
        System.out.println("a new object: " + seen.size() + " objects, " + parts + " fields and elements");
        CHECK.due("objects: " + seen.size(), seen.size() < MOST_OBJECTS / 2, true);
        CHECK.due("fields and elements: " + parts, parts < MOST_PARTS / 2, true);
    }

    private static long elements(Object array, ArrayDeque<Object> open) {
        int length = Array.getLength(array);
        for (int i = 0; i < length && array instanceof Object[]; i++) {
            if (Array.get(array, i) != null) {
                open.add(Array.get(array, i));
            }
        }
        return length;
    }

    private static long fields(Object o, ArrayDeque<Object> open) {
        long count = 0;
        for (Field f : o.getClass().getDeclaredFields()) {
            if (Modifier.isStatic(f.getModifiers())) {
                continue;
            }
            count++;
            try {
                f.setAccessible(true);
                if (!f.getType().isPrimitive() && f.get(o) != null) {
                    open.add(f.get(o));
                }
            } catch (IllegalAccessException e) {
                throw new IllegalStateException(e);
            }
        }
        return count;
    }

    private static FlumeOrders crowded() {
        FlumeOrders x = new FlumeOrders();
        Check.forest(x, "camp 20 999;camp 20 999;camp 20 999;camp 20 999;camp 20 999;camp 20 999;camp 20 999;camp 20 999;"
            + "camp 20 999;camp 20 999;camp 20 999");
        Check.forest(x, "reach 0 20 stick 9 bend 3;reach 3 20 bend 1");
        for (int i = 0; i < 12; i++) {
            x.order(i % 11 + 1, i % 9 + 1);
            if (i > 0) {
                x.ahead(i - 1, i, 999);
            }
        }
        for (int i = 0; i < 12; i++) {
            Check.chip(x, i % 12, i % 9 + 1, "all;cut 3 if not (trees<5 or frost);send 2;answer if 9>hour and logs>0;void " + i);
        }
        return x;
    }

    private static int readChip(FlumeOrders x, int i) {
        return Check.chip(x, 0, 1, "all;answer if " + "1+".repeat(190) + "1<2");
    }

    private static int readForest(FlumeOrders x, int i) {
        return Check.forest(x, "reach 0 5 stick 1 bend 1;".repeat(13) + "water " + i % 11);
    }

    /** Of something that takes so many calls each time. */
    private static void callsMakeLittle(String what, int callsEach, Call call) {
        com.sun.management.ThreadMXBean threads = (com.sun.management.ThreadMXBean) ManagementFactory.getThreadMXBean();
        FlumeOrders warm = crowded();
        long self = Thread.currentThread().getId();
        for (int i = 0; i < CALLS / callsEach; i++) {
            call.of(warm, i);
        }
        FlumeOrders x = crowded();
        long before = threads.getThreadAllocatedBytes(self);
        for (int i = 0; i < CALLS / callsEach; i++) {
            call.of(x, i);
        }
        long made = threads.getThreadAllocatedBytes(self) - before;
        // Of texts the test itself makes a part: their signs, their numbers, and what the refused calls throw.
        CHECK.due(what + " made " + made / CALLS + " bytes a call", made <= BYTES_A_CALL * CALLS, true);
    }
}
