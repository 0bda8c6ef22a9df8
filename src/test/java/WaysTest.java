/** Promises 14, 15, 19 and 20: times of ways, waits, chances and repeats. */
public final class WaysTest {
    private static final Check CHECK = new Check();

    public static void main(String[] args) {
        promise14();
        promise14IsHowLongItTakes();
        promise15();
        promise15Refused();
        promise19();
        promise20();
        promise20Refused();
        CHECK.over("WaysTest");
    }

    private static FlumeOrders forest(String text) {
        FlumeOrders x = new FlumeOrders();
        CHECK.due(text, Check.forest(x, text), 1);
        return x;
    }

    private static void promise14() {
        FlumeOrders x = forest("reach 0 3;camp 4 0;camp 5 0;water 2;frost 0 23;reach 1 4 stick 99 bend 1");
        CHECK.due("time(0, 3, 1, 9)", x.time(0, 3, 1, 9), 12 * 2);
        CHECK.due("time(0, 3, 9, 1)", x.time(0, 3, 9, 1), 12 * 18);
        CHECK.due("time(1, 3, 5, 5)", x.time(1, 3, 5, 5), 9 * 10);
        CHECK.due("time(0, 1, 2, 3)", x.time(0, 1, 2, 3), 3 * 9);
        CHECK.due("time(2, 3, 2, 3)", x.time(2, 3, 2, 3), 5 * 9);
        for (int s = 0; s < 4; s++) {
            CHECK.due("time of no way", x.time(s, s, 9, 1), 0);
        }
        CHECK.throwsDue("from -1", () -> x.time(-1, 0, 1, 1), Check.INDEX);
        CHECK.throwsDue("from 4", () -> x.time(4, 4, 0, 1), Check.INDEX);
        CHECK.throwsDue("to 4", () -> x.time(0, 4, 1, 0), Check.INDEX);
        CHECK.throwsDue("to -1", () -> x.time(0, -1, 1, 1), Check.INDEX);
        CHECK.throwsDue("ahead", () -> x.time(2, 1, 1, 1), Check.ARGUMENT);
        CHECK.throwsDue("weight 0", () -> x.time(0, 1, 0, 1), Check.ARGUMENT);
        CHECK.throwsDue("weight 10", () -> x.time(0, 1, 10, 1), Check.ARGUMENT);
        CHECK.throwsDue("water 0", () -> x.time(0, 1, 1, 0), Check.ARGUMENT);
        CHECK.throwsDue("water 10", () -> x.time(0, 0, 1, 10), Check.ARGUMENT);
    }

    private static void promise14IsHowLongItTakes() {
        FlumeOrders x = forest("reach 0 3;camp 4 0;camp 5 0;water 7");
        Check.chip(x, 0, 4, "mill");
        x.run(200);
        CHECK.due("it came", x.look(0, 4), x.time(0, 3, 4, 7));
    }

    private static void promise15() {
        FlumeOrders x = forest("reach 0 3;camp 4 0");
        CHECK.due("heavy, then light, to 1", x.waits(1, 9, 1, 1, 9), 3 * 8 + 1);
        CHECK.due("heavy, then light, to the mill", x.waits(2, 5, 3, 4, 4), 7 * 2 + 1);
        CHECK.due("alike", x.waits(2, 4, 4, 1, 9), 1);
        CHECK.due("light, then heavy", x.waits(2, 3, 4, 1, 9), 0);
        CHECK.due("to the office", x.waits(0, 1, 9, 9, 9), 1);
        FlumeOrders y = forest("reach 0 1");
        CHECK.due("by one minute", y.waits(1, 1, 2, 5, 5), 0);
        int wait = x.waits(2, 8, 2, 5, 5);
        for (int less = 0; less < 2; less++) {
            FlumeOrders z = forest("reach 0 3;camp 4 0");
            Check.chip(z, 0, 8, "mill");
            z.run(wait - less);
            Check.chip(z, 0, 2, "mill");
            z.run(500);
            CHECK.due("the second is later by so much", z.look(1, 4) - z.look(0, 4), 1 - less);
        }
    }

    private static void promise15Refused() {
        FlumeOrders x = forest("camp 4 0");
        CHECK.throwsDue("to 3", () -> x.waits(3, 0, 1, 1, 1), Check.INDEX);
        CHECK.throwsDue("to -1", () -> x.waits(-1, 1, 1, 1, 1), Check.INDEX);
        CHECK.throwsDue("first 0", () -> x.waits(1, 0, 1, 1, 1), Check.ARGUMENT);
        CHECK.throwsDue("first 10", () -> x.waits(1, 10, 1, 1, 1), Check.ARGUMENT);
        CHECK.throwsDue("second 0", () -> x.waits(1, 1, 0, 1, 1), Check.ARGUMENT);
        CHECK.throwsDue("second 10", () -> x.waits(1, 1, 10, 1, 1), Check.ARGUMENT);
        CHECK.throwsDue("least 0", () -> x.waits(1, 1, 1, 0, 1), Check.ARGUMENT);
        CHECK.throwsDue("greatest 10", () -> x.waits(1, 1, 1, 1, 10), Check.ARGUMENT);
        CHECK.throwsDue("least above greatest", () -> x.waits(1, 1, 1, 6, 5), Check.ARGUMENT);
        CHECK.due("least is greatest", x.waits(1, 1, 1, 5, 5), 1);
    }

    private static void promise19() {
        FlumeOrders x = forest("reach 0 1 stick 33;camp 1 0;camp 1 0;reach 1 1 stick 67;reach 2 1 stick 99");
        CHECK.due("chance(0, 0)", x.chance(0, 0), 1000000000);
        CHECK.due("chance(3, 3)", x.chance(3, 3), 1000000000);
        CHECK.due("chance(0, 1)", x.chance(0, 1), 670000000);
        CHECK.due("chance(1, 2)", x.chance(1, 2), 330000000);
        CHECK.due("chance(0, 2)", x.chance(0, 2), 221100000);
        CHECK.due("chance(0, 3)", x.chance(0, 3), 2211000);
        FlumeOrders y = forest("reach 0 1 stick 99;camp 1 0;reach 1 1 stick 99;camp 1 0;reach 2 1 stick 99;camp 1 0;"
            + "reach 3 1 stick 99;camp 1 0;reach 4 1 stick 93;camp 1 0;reach 5 1 stick 50");
        CHECK.due("rounded down by each reach", y.chance(0, 6), 0);
        CHECK.due("70 hundredths are 0", y.chance(0, 5), 0);
        CHECK.due("chance(0, 4)", y.chance(0, 4), 10);
        FlumeOrders z = forest("reach 0 1 stick 97;camp 1 0;reach 1 1 stick 97;camp 1 0;reach 2 1 stick 97;camp 1 0;"
            + "reach 3 1 stick 97;camp 1 0;reach 4 1 stick 97;camp 1 0;reach 5 1 stick 51;camp 1 0;reach 6 1 stick 51");
        // 810, 24.3, 11.76, 5.39: without rounding, 5 would come of 5.83.
        CHECK.due("chance(0, 4)", z.chance(0, 4), 810);
        CHECK.due("chance(0, 5)", z.chance(0, 5), 24);
        CHECK.due("chance(0, 6)", z.chance(0, 6), 11);
        CHECK.due("chance(0, 7)", z.chance(0, 7), 5);
        CHECK.throwsDue("ahead", () -> x.chance(1, 0), Check.ARGUMENT);
        CHECK.throwsDue("from 4", () -> x.chance(4, 0), Check.INDEX);
        CHECK.throwsDue("to 4", () -> x.chance(0, 4), Check.INDEX);
        CHECK.throwsDue("from -1", () -> x.chance(-1, 0), Check.INDEX);
        CHECK.throwsDue("to -1", () -> x.chance(0, -1), Check.INDEX);
    }

    private static void promise20() {
        FlumeOrders x = forest("reach 0 1 stick 50;camp 1 0");
        CHECK.due("no doubt asked", x.repeats(0, 2, 1000000), 0);
        CHECK.due("a little", x.repeats(0, 2, 999999), 1);
        CHECK.due("500000", x.repeats(0, 1, 500000), 1);
        CHECK.due("499999", x.repeats(0, 1, 499999), 2);
        // 30 halves, rounded down each time, leave nothing of a billion.
        CHECK.due("0", x.repeats(0, 1, 0), 30);
        CHECK.due("nothing sticks", x.repeats(1, 2, 0), 1);
        CHECK.due("no way", x.repeats(2, 2, 0), 1);
        FlumeOrders y = forest("reach 0 1 stick 99");
        CHECK.due("69 by a hundredth", y.repeats(0, 1, 500000), 69);
        // The 99th leaves 369729 millionths, the 98th 373464.
        CHECK.due("99 are enough", y.repeats(0, 1, 369730), 99);
        CHECK.due("99 are not enough", y.repeats(0, 1, 369729), FlumeOrders.NONE);
        CHECK.due("98", y.repeats(0, 1, 373465), 98);
    }

    private static void promise20Refused() {
        FlumeOrders x = forest("camp 1 0");
        CHECK.throwsDue("-1", () -> x.repeats(0, 1, -1), Check.ARGUMENT);
        CHECK.throwsDue("1000001", () -> x.repeats(0, 1, 1000001), Check.ARGUMENT);
        CHECK.throwsDue("ahead", () -> x.repeats(1, 0, 5), Check.ARGUMENT);
        CHECK.throwsDue("from 3", () -> x.repeats(3, 0, -1), Check.INDEX);
        CHECK.throwsDue("to 3", () -> x.repeats(0, 3, -1), Check.INDEX);
        CHECK.throwsDue("to -1", () -> x.repeats(0, -1, 5), Check.INDEX);
        CHECK.throwsDue("from -1", () -> x.repeats(-1, 0, 5), Check.INDEX);
    }
}
