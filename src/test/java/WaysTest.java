/** Promises 14, 19 and 20: times of ways, chances and repeats. */
public final class WaysTest {
    private static final Check CHECK = new Check();

    public static void main(String[] args) {
        promise14();
        promise14IsHowLongItTakes();
        promise19();
        promise20();
        CHECK.over("WaysTest");
    }

    private static void promise14() {
        FlumeOrders x = Check.forestOf("reach 0 3;camp 4 0;camp 5 0;water 2;frost 0 23;reach 1 4 stick 99 bend 1");
        CHECK.due("time(0, 3, 1, 9)", x.time(0, 3, 1, 9), 12 * 2);
        CHECK.due("time(0, 3, 9, 1)", x.time(0, 3, 9, 1), 12 * 18);
        CHECK.due("time(1, 3, 5, 5)", x.time(1, 3, 5, 5), 9 * 10);
        CHECK.due("time(0, 1, 2, 3)", x.time(0, 1, 2, 3), 3 * 9);
        CHECK.due("time(2, 3, 2, 3)", x.time(2, 3, 2, 3), 5 * 9);
        for (int s = 0; s < 4; s++) {
            CHECK.due("time of no way", x.time(s, s, 9, 1), 0);
        }
    }

    private static void promise14IsHowLongItTakes() {
        FlumeOrders x = Check.forestOf("reach 0 3;camp 4 0;camp 5 0;water 7");
        Check.chip(x, 0, 4, "mill");
        x.run(200);
        CHECK.due("it came", x.look(0, 4), x.time(0, 3, 4, 7));
    }

    private static void promise19() {
        FlumeOrders x = Check.forestOf("reach 0 1 stick 33;camp 1 0;camp 1 0;reach 1 1 stick 67;reach 2 1 stick 99");
        CHECK.due("chance(0, 0)", x.chance(0, 0), 1000000000);
        CHECK.due("chance(3, 3)", x.chance(3, 3), 1000000000);
        CHECK.due("chance(0, 1)", x.chance(0, 1), 670000000);
        CHECK.due("chance(1, 2)", x.chance(1, 2), 330000000);
        CHECK.due("chance(0, 2)", x.chance(0, 2), 221100000);
        CHECK.due("chance(0, 3)", x.chance(0, 3), 2211000);
    }

    private static void promise20() {
        FlumeOrders x = Check.forestOf("reach 0 1 stick 50;camp 1 0");
        CHECK.due("no doubt asked", x.repeats(0, 2, 1000000), 0);
        CHECK.due("a little", x.repeats(0, 2, 999999), 1);
        CHECK.due("500000", x.repeats(0, 1, 500000), 1);
        CHECK.due("499999", x.repeats(0, 1, 499999), 2);
        // 30 halves, rounded down each time, leave nothing of a billion.
        CHECK.due("0", x.repeats(0, 1, 0), 30);
        CHECK.due("nothing sticks", x.repeats(1, 2, 0), 1);
        CHECK.due("no way", x.repeats(2, 2, 0), 1);
        FlumeOrders y = Check.forestOf("reach 0 1 stick 99");
        CHECK.due("69 by a hundredth", y.repeats(0, 1, 500000), 69);
    }
}
