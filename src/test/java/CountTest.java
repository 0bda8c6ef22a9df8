/** Promise 26: counts. */
public final class CountTest {
    private static final Check CHECK = new Check();

    public static void main(String[] args) {
        promise26();
        promise26AnotherWhat();
        CHECK.over("CountTest");
    }

    private static void promise26() {
        FlumeOrders x = new FlumeOrders();
        Check.forest(x, "reach 0 1;camp 1 9;camp 1 9");
        Check.forest(x, "camp 1 9;frost 1 2;water 7");
        x.order(1, 1);
        Check.chip(x, 0, 1, "all;cut 3;send 2");
        Check.chip(x, 0, 2, "all;void 0");
        Check.chip(x, 0, 3, "to 1");
        x.run(59);
        int[] counts = {3, 2, 3, 2, 59, 7, 1, 3, 6, 0};
        for (int what = 0; what < counts.length; what++) {
            CHECK.due("count(" + what + ")", x.count(what), counts[what]);
        }
        x.run(1);
        CHECK.due("frost now", x.count(9), 1);
        x.run(59);
        CHECK.due("frost yet", x.count(9), 1);
        x.run(1);
        CHECK.due("no frost any more", x.count(9), 0);
    }

    private static void promise26AnotherWhat() {
        FlumeOrders x = new FlumeOrders();
        for (int what : new int[] {-1, 10, 11, Integer.MIN_VALUE, Integer.MAX_VALUE}) {
            CHECK.due("count(" + what + ")", x.count(what), FlumeOrders.NONE);
        }
    }
}
