/** Promise 22: where to test for what sticks. */
public final class HoldBackTest {
    private static final Check CHECK = new Check();

    public static void main(String[] args) {
        promise22();
        CHECK.over("HoldBackTest");
    }

    private static void promise22() {
        FlumeOrders x = new FlumeOrders();
        Check.forest(x, "camp 1 0;camp 1 0;camp 1 0;camp 1 0");
        CHECK.due("0 1: 0 to 1", x.test(3), 1);
        CHECK.due("0 4: 0 to 1", x.test(17), 1);
        CHECK.due("1 2: 0 to 2", x.test(6), 2);
        CHECK.due("3 4: 0 to 4", x.test(24), 4);
        CHECK.due("0 1 2: one or two of them", x.test(7), 1);
        CHECK.due("2 3 4: 0 to 3", x.test(28), 3);
        CHECK.due("0 1 2 3: 0 to 2", x.test(15), 2);
        CHECK.due("all five: 0 to 2", x.test(31), 2);
        CHECK.due("1 2 3 4: 0 to 3", x.test(30), 3);
        FlumeOrders y = new FlumeOrders();
        Check.forest(y, "camp 1 0;camp 1 0;camp 1 0;camp 1 0;camp 1 0;camp 1 0;camp 1 0;camp 1 0;camp 1 0;camp 1 0;camp 1 0");
        CHECK.due("all twelve: 0 to 6", y.test(4095), 6);
        CHECK.due("the last two: 0 to 11", y.test(3 << 10), 11);
        CHECK.due("all bits", y.test(-1), 6);
    }
}
