/** Promise 18: the plan of orders, of which some come ahead of others. */
public final class OrdersTest {
    private static final Check CHECK = new Check();

    public static void main(String[] args) {
        promise18();
        promise18Chains();
        promise18Rings();
        promise18IsOfNow();
        CHECK.over("OrdersTest");
    }

    /** Camps 3, 7 and 12 far from the office. */
    private static FlumeOrders forest() {
        FlumeOrders x = new FlumeOrders();
        CHECK.due("forest", Check.forest(x, "reach 0 3;camp 4 0;camp 5 0;camp 6 0;water 9"), 1);
        return x;
    }

    private static void plans(FlumeOrders x, int span, int... starts) {
        CHECK.due("span", x.plan(FlumeOrders.NONE), span);
        for (int i = 0; i < starts.length; i++) {
            CHECK.due("plan(" + i + ")", x.plan(i), starts[i]);
        }
    }

    private static void promise18() {
        FlumeOrders x = forest();
        plans(x, 0);
        x.order(1, 2);
        x.order(2, 2);
        // 3 and 7 by 3 minutes each.
        plans(x, 21, 0, 0);
        x.ahead(0, 1, 12);
        plans(x, 21, 0, 0);
        x.ahead(0, 1, 13);
        plans(x, 22, 0, 1);
        x.ahead(0, 1, 0);
        x.ahead(1, 0, 10);
        plans(x, 31, 22, 0);
    }

    private static void promise18Chains() {
        FlumeOrders x = forest();
        for (int i = 0; i < 12; i++) {
            x.order(1, 1);
        }
        // From the last one to the first: 6 minutes of the way, and 1 more each.
        for (int i = 11; i > 0; i--) {
            x.ahead(i, i - 1, 1);
        }
        plans(x, 17, 11, 10, 9, 8, 7, 6, 5, 4, 3, 2, 1, 0);
        x.ahead(11, 0, 999);
        plans(x, 1005, 999, 10);
        x.ahead(11, 0, 4);
        plans(x, 17, 11);
    }

    private static void promise18Rings() {
        FlumeOrders x = forest();
        x.order(1, 1);
        x.order(3, 9);
        x.order(2, 1);
        x.order(1, 1);
        x.ahead(0, 1, 1);
        x.ahead(1, 2, 1);
        // 12 by 10 minutes, and 1: by 14 minutes of its own way, the third one starts at 107.
        plans(x, 121, 0, 0, 107, 0);
        x.ahead(2, 0, 1);
        plans(x, FlumeOrders.NONE, FlumeOrders.NONE, FlumeOrders.NONE, FlumeOrders.NONE, FlumeOrders.NONE);
        x.ahead(1, 2, 0);
        plans(x, 120, 9, 0, 0, 0);
    }

    private static void promise18IsOfNow() {
        FlumeOrders x = forest();
        x.order(1, 1);
        x.order(2, 1);
        x.ahead(1, 0, 1);
        plans(x, 15, 9, 0);
        x.water(8);
        plans(x, 22, 13, 0);
        Check.forest(x, "reach 0 1 stick 99 bend 1;frost 0 23");
        plans(x, 16, 13, 0);
    }
}
