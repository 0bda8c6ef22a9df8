/** Promises 1 to 3: a new object, feed, end. */
public final class TapeTest {
    private static final Check CHECK = new Check();

    public static void main(String[] args) {
        promise1();
        promise2();
        promise2BytesComeHighestFirst();
        promise3();
        CHECK.over("TapeTest");
    }

    private static void promise1() {
        FlumeOrders x = new FlumeOrders();
        int[] counts = {0, 0, 0, 0, 0, 5, 0, 0, 0, 0};
        for (int what = 0; what < counts.length; what++) {
            CHECK.due("count(" + what + ") of a new object", x.count(what), counts[what]);
        }
        CHECK.due("length of reach 0", x.reach(0, 0), 10);
        CHECK.due("stick of reach 0", x.reach(0, 1), 0);
        CHECK.due("bend of reach 0", x.reach(0, 2), 0);
        CHECK.due("chips in reach 0", x.reach(0, 3), 0);
        CHECK.throwsDue("reach 1", () -> x.reach(1, 0), Check.INDEX);
        CHECK.throwsDue("camp 1", () -> x.camp(1, 0), Check.INDEX);
        CHECK.throwsDue("chip 0", () -> x.look(0, 0), Check.INDEX);
        CHECK.due("out(0)", x.out(0), FlumeOrders.NONE);
        CHECK.due("fault()", x.fault(), FlumeOrders.NONE);
        CHECK.due("back()", x.back(), false);
        CHECK.due("plan(NONE)", x.plan(FlumeOrders.NONE), 0);
        CHECK.due("end(0)", x.end(0), true);
        CHECK.due("end(1)", x.end(1), false);
        CHECK.due("NONE", FlumeOrders.NONE, -1);
        // The seed is 1 at first: its first draw is 38.
        CHECK.due("forest", Check.forest(x, "reach 0 1 stick 39"), 1);
        CHECK.due("chip", Check.chip(x, 0, 1, "mill"), 0);
        x.run(1);
        CHECK.due("the first draw is below 39", x.look(0, 0), 2);
    }

    private static void promise2() {
        FlumeOrders x = new FlumeOrders();
        for (int i = 1; i <= 20; i++) {
            CHECK.due("feed " + i, x.feed(1, 2, 3, 4, 5), 20 * i);
        }
        CHECK.due("feed beyond 400", x.feed(1, 2, 3, 4, 5), FlumeOrders.NONE);
        CHECK.due("none came", x.end(401), false);
        CHECK.due("end(381)", x.end(381), true);
        CHECK.due("feed of 401", x.feed(1, 2, 3, 4, 5), FlumeOrders.NONE);
        CHECK.due("end(380)", x.end(380), true);
        CHECK.due("feed of 400", x.feed(1, 2, 3, 4, 5), 400);
        CHECK.throwsDue("a text of such bytes", x::forest, Check.ARGUMENT);
        CHECK.due("the tape is used up", x.feed(1, 2, 3, 4, 5), 20);
    }

    private static void promise2BytesComeHighestFirst() {
        FlumeOrders x = new FlumeOrders();
        // "cam" and "p 7 8" over two numbers, then a byte 255 in a number below 0.
        x.feed(0x2063616d, 0x70203720, 0x38203b20, 0xff000000, 0);
        x.end(9);
        CHECK.due("the first nine bytes", Check.answer(x::forest), 1);
        CHECK.due("length", x.reach(1, 0), 7);
        CHECK.due("trees", x.camp(1, 0), 8);
        x.feed(0x2063616d, 0x70203720, 0x38203b20, 0xff000000, 0);
        x.end(13);
        CHECK.due("with the byte 255", Check.answer(x::forest), Check.ARGUMENT);
        CHECK.due("fault at the byte 255", x.fault(), 12);
    }

    private static void promise3() {
        FlumeOrders x = new FlumeOrders();
        CHECK.due("end(-1)", x.end(-1), false);
        CHECK.due("end(MIN)", x.end(Integer.MIN_VALUE), false);
        x.feed(0x77617465, 0x72203720, 0x20202020, 0, 0);
        CHECK.due("end(21) of 20", x.end(21), false);
        CHECK.due("end(20) of 20", x.end(20), true);
        CHECK.due("end(-1) of 20", x.end(-1), false);
        CHECK.due("end(7)", x.end(7), true);
        CHECK.due("end(8) of 7", x.end(8), false);
        CHECK.due("feed behind 7", x.feed(0x20202020, 0x20202020, 0x20202020, 0x20202020, 0x20202020), 27);
        CHECK.due("the first 7 stayed", Check.answer(x::forest), 1);
        CHECK.due("water 7", x.count(5), 7);
        x.feed(1, 1, 1, 1, 1);
        CHECK.due("end(0)", x.end(0), true);
        CHECK.due("nothing is left", Check.answer(x::forest), 2);
    }
}
