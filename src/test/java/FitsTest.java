/** Promise 21: in which orders chips can have been thrown. */
public final class FitsTest {
    private static final Check CHECK = new Check();

    public static void main(String[] args) {
        promise21();
        promise21Ties();
        promise21Alike();
        CHECK.over("FitsTest");
    }

    private static void fits(FlumeOrders x, String row, int orders, String first) {
        CHECK.due("orders of " + row, Check.fits(x, row, FlumeOrders.NONE), orders);
        for (int k = 0; k < 8; k++) {
            int due = k < first.length() ? first.charAt(k) - '0' : FlumeOrders.NONE;
            CHECK.due("first of " + row + ", " + k, Check.fits(x, row, k), due);
        }
    }

    private static void promise21() {
        FlumeOrders x = new FlumeOrders();
        Check.forest(x, "reach 0 10;water 9");
        // One of weight 1 needs 20 minutes, each weight more 10 more: none can pass but by weight.
        fits(x, "12", 2, "12");
        fits(x, "21", 0, "");
        fits(x, "123", 6, "123");
        fits(x, "132", 0, "");
        fits(x, "123456", 720, "123456");
        fits(x, "9", 1, "9");
        Check.forest(x, "reach 0 1");
        // Weights 2, 3, 4 need 3, 4, 5 minutes: the heavier one wins only if it is thrown first.
        fits(x, "43", 1, "43");
        fits(x, "34", 1, "34");
        fits(x, "24", 2, "24");
        fits(x, "42", 0, "");
        // 3 2 4 comes at 4, 4, 7, and 3 4 2 at 4, 6, 5; 2 4 3 at 3, 6, 6, and 4 2 3 at 5, 4, 6.
        fits(x, "324", 2, "324");
        fits(x, "243", 2, "243");
    }

    private static void promise21Ties() {
        FlumeOrders x = new FlumeOrders();
        Check.forest(x, "reach 0 1;water 9");
        // 2 thrown at 0 and 1 at 1 come in one minute: the one thrown first is first.
        fits(x, "21", 1, "21");
        fits(x, "12", 1, "12");
        // With camps the whole way counts: 2 is one minute too late then.
        Check.forest(x, "camp 1 0");
        fits(x, "21", 0, "");
        fits(x, "12", 2, "12");
        x.water(1);
        fits(x, "21", 0, "");
    }

    private static void promise21Alike() {
        FlumeOrders x = new FlumeOrders();
        Check.forest(x, "reach 0 10;water 9");
        fits(x, "111111", 1, "111111");
        fits(x, "112", 3, "112");
        fits(x, "111222", 20, "111222");
        fits(x, "121", 0, "");
        Check.forest(x, "reach 0 1");
        // 1 1 2: 2, 3, 5. 1 2 1: 2, 4, 4. 2 1 1: 3, 3, 4.
        fits(x, "112", 1, "112");
        fits(x, "121", 1, "121");
        fits(x, "211", 1, "211");
        // Of 1 3 the 3 may be first as well: 4 and 3; so of 1 1 3: 1 3 1 comes 2, 5, 4, and 3 1 1 comes 4, 3, 4.
        fits(x, "113", 2, "113");
        fits(x, "131", 1, "311");
    }
}
