import java.lang.management.ManagementFactory;
import java.lang.reflect.Array;
import java.lang.reflect.Field;
import java.lang.reflect.Modifier;
import java.util.ArrayDeque;
import java.util.Collections;
import java.util.IdentityHashMap;
import java.util.Set;

/** All calls of one run live in one room: a new object is small, and calls make nothing but what they throw. */
public final class RoomTest {
    private static final Check CHECK = new Check();
    private static final int CALLS = 512;
    /** Of the machine's own counting; an array of 512 numbers would be more. */
    private static final long BYTES_A_CALL = 256;

    private interface Call {
        int of(FlumeOrders x, int i);
    }

    public static void main(String[] args) {
        sizeOfANewObject();
        callsMakeNothing("later", (x, i) -> x.later(2000, i % 6));
        callsMakeNothing("run", (x, i) -> x.run(2000));
        callsMakeNothing("image and back", (x, i) -> {
            x.image();
            return x.back() ? 1 : 0;
        });
        callsMakeNothing("feed and fits", (x, i) -> {
            x.feed(0x31323334, 0x35360000, 0, 0, 0);
            x.end(6);
            return x.fits(i % 7 - 1);
        });
        callsMakeNothing("plan", (x, i) -> x.plan(-1));
        callsMakeNothing("waits", (x, i) -> x.waits(12, 9, 1, 1, 9));
        callsMakeNothing("test", (x, i) -> x.test(-1));
        callsMakeNothing("repeats", (x, i) -> x.repeats(0, 12, 0));
        callsMakeNothing("texts of chips", (x, i) -> readChip(x, "all;answer if " + "1+".repeat(190) + "1<2"));
        callsMakeNothing("texts of the forest", RoomTest::readForest);
        CHECK.over("RoomTest");
    }

    private static void sizeOfANewObject() {
        Set<Object> seen = Collections.newSetFromMap(new IdentityHashMap<>());
        ArrayDeque<Object> open = new ArrayDeque<>();
        open.add(new FlumeOrders());
        long parts = 0;
        while (!open.isEmpty()) {
            Object o = open.poll();
            if (!seen.add(o) || o instanceof Enum || o instanceof String) {
                continue;
            }
            parts += o.getClass().isArray() ? elements(o, open) : fields(o, open);
        }
        System.out.println("a new object: " + seen.size() + " objects, " + parts + " fields and elements");
        CHECK.due("objects: " + seen.size(), seen.size() < 2000, true);
        CHECK.due("fields and elements: " + parts, parts < 100000, true);
    }

    private static long elements(Object array, ArrayDeque<Object> open) {
        int length = Array.getLength(array);
        for (int i = 0; i < length && array instanceof Object[]; i++) {
            if (Array.get(array, i) != null) {
                open.add(Array.get(array, i));
            }
        }
        return length;
    }

    private static long fields(Object o, ArrayDeque<Object> open) {
        long count = 0;
        for (Field f : o.getClass().getDeclaredFields()) {
            if (Modifier.isStatic(f.getModifiers())) {
                continue;
            }
            count++;
            try {
                f.setAccessible(true);
                if (!f.getType().isPrimitive() && f.get(o) != null) {
                    open.add(f.get(o));
                }
            } catch (IllegalAccessException e) {
                throw new IllegalStateException(e);
            }
        }
        return count;
    }

    private static FlumeOrders crowded() {
        FlumeOrders x = new FlumeOrders();
        Check.forest(x, "camp 20 999;camp 20 999;camp 20 999;camp 20 999;camp 20 999;camp 20 999;camp 20 999;camp 20 999;"
            + "camp 20 999;camp 20 999;camp 20 999");
        Check.forest(x, "reach 0 20 stick 9 bend 3;reach 3 20 bend 1");
        for (int i = 0; i < 12; i++) {
            x.order(i % 11 + 1, i % 9 + 1);
            if (i > 0) {
                x.ahead(i - 1, i, 999);
            }
        }
        for (int i = 0; i < 50; i++) {
            Check.chip(x, i % 12, i % 9 + 1, "all;cut 3 if not (trees<5 or frost);send 2;answer if hour>2 and logs>0;void " + i);
        }
        return x;
    }

    private static int readChip(FlumeOrders x, String text) {
        return Check.chip(x, 0, 1, text);
    }

    private static int readForest(FlumeOrders x, int i) {
        return Check.forest(x, "reach 0 5 stick 1 bend 1;".repeat(13) + "water " + i % 11);
    }

    private static void callsMakeNothing(String what, Call call) {
        com.sun.management.ThreadMXBean threads = (com.sun.management.ThreadMXBean) ManagementFactory.getThreadMXBean();
        FlumeOrders warm = crowded();
        long self = Thread.currentThread().getId();
        for (int i = 0; i < CALLS; i++) {
            call.of(warm, i);
        }
        boolean isText = what.startsWith("texts");
        FlumeOrders x = crowded();
        long before = threads.getThreadAllocatedBytes(self);
        for (int i = 0; i < CALLS; i++) {
            call.of(x, i);
        }
        long made = threads.getThreadAllocatedBytes(self) - before;
        // The test itself makes the text, its numbers, and what the refused calls throw.
        long most = isText ? 8192 : BYTES_A_CALL;
        CHECK.due(what + " made " + made / CALLS + " bytes a call", made <= most * CALLS, true);
    }
}
