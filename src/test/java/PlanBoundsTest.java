/** The bounds in the third part of the terms: waits, plans, chances, rows that fit, tests, days ahead, the image. */
public final class PlanBoundsTest {
    private static final int NONE = FlumeOrders.NONE;
    private static final int BILLION = 1000000000;

    public static void main(String[] args) throws Exception {
        Sentences.hold(PlanBoundsTest.class);
    }

    private static void plans(Check c, FlumeOrders x, int span, int... starts) {
        c.due("span", x.plan(NONE), span);
        for (int i = 0; i < starts.length; i++) {
            c.due("minute of order " + i, x.plan(i), starts[i]);
        }
    }

    @Sentence("the fewest (0 at least) by which, without FROST, STICK and BEND")
    private static void fewestWait(Check c) {
        FlumeOrders x = Check.forestOf("reach 0 1 stick 99 bend 1;frost 0 23");
        c.due("the second one is much slower", x.waits(1, 1, 9, 5, 5), 0);
        c.due("it is slower by a minute", x.waits(1, 4, 5, 5, 5), 0);
        c.due("they are alike", x.waits(1, 4, 4, 5, 5), 1);
        c.due("it is faster by a minute", x.waits(1, 5, 4, 5, 5), 2);
        c.due("it is much faster", x.waits(1, 9, 1, 5, 5), 9);
    }

    @Sentence("the second comes to a told STATION in a later minute than the first")
    private static void laterMinute(Check c) {
        FlumeOrders x = Check.forestOf("reach 0 3;camp 4 0");
        c.due("to the office", x.waits(0, 9, 1, 1, 9), 1);
        c.due("to the office, by the slower one", x.waits(0, 1, 9, 1, 9), 1);
        c.due("to the camp", x.waits(1, 9, 1, 1, 9), 25);
        c.due("to the mill", x.waits(2, 9, 1, 1, 9), 57);
        int wait = x.waits(2, 8, 2, 5, 5);
        for (int less = 0; less <= 1; less++) {
            FlumeOrders y = Check.forestOf("reach 0 3;camp 4 0");
            Check.chip(y, 0, 8, "mill");
            y.run(wait - less);
            Check.chip(y, 0, 2, "mill");
            y.run(500);
            c.due("by so many minutes it is later", y.look(1, 4) - y.look(0, 4), 1 - less);
        }
    }

    @Sentence("by any one WATER of some (from a least to a greatest), through all the way.")
    private static void anyWater(Check c) {
        FlumeOrders x = Check.forestOf("reach 0 20;camp 20 0");
        for (int least = 1; least <= 9; least++) {
            for (int greatest = least; greatest <= 9; greatest++) {
                c.due("waters " + least + " to " + greatest, x.waits(2, 3, 1, least, greatest), 81);
            }
        }
    }

    @Sentence("ORDERS (at most 12, numbered from 0 on)")
    private static void mostOrders(Check c) {
        FlumeOrders x = Check.forestOf("camp 1 0");
        for (int i = 0; i < 12; i++) {
            c.due("order " + i, x.order(1, i % 9 + 1), i);
        }
        c.throwsDue("a 13th", () -> x.order(1, 1), Check.UNSUPPORTED);
        c.due("orders", x.count(6), 12);
        c.due("of the last one", x.plan(11), 0);
        c.throwsDue("of a 13th", () -> x.plan(12), Check.INDEX);
    }

    @Sentence("one must come (to its CAMP) at least so many minutes (1 to 999) ahead of another one (to its)")
    private static void minutesAhead(Check c) {
        FlumeOrders x = Check.forestOf("reach 0 1;camp 1 0");
        x.order(1, 1);
        x.order(1, 3);
        // They need 6 and 8 minutes.
        x.ahead(0, 1, 1);
        plans(c, x, 8, 0, 0);
        x.ahead(0, 1, 2);
        plans(c, x, 8, 0, 0);
        x.ahead(0, 1, 3);
        plans(c, x, 9, 0, 1);
        x.ahead(0, 1, 999);
        plans(c, x, 1005, 0, 997);
        x.ahead(0, 1, 0);
        x.ahead(1, 0, 1);
        plans(c, x, 9, 3, 0);
    }

    @Sentence("the least minute for each (0 at least) by which all that is so; SPAN: when the last one comes;")
    private static void leastMinutes(Check c) {
        FlumeOrders x = Check.forestOf("reach 0 1;camp 1 0;camp 1 0");
        plans(c, x, 0);
        x.order(2, 9);
        // 28 minutes, by two reaches of 14.
        plans(c, x, 28, 0);
        x.order(1, 1);
        x.order(1, 1);
        x.order(1, 1);
        plans(c, x, 28, 0, 0, 0, 0);
        x.ahead(1, 2, 30);
        x.ahead(2, 3, 5);
        x.ahead(1, 3, 40);
        plans(c, x, 46, 0, 0, 30, 40);
        x.ahead(1, 3, 34);
        plans(c, x, 41, 0, 0, 30, 35);
    }

    @Sentence("the least minute for each (0 at least) by which all that is so; SPAN: when the last one comes;")
    private static void longestChain(Check c) {
        FlumeOrders x = Check.forestOf("reach 0 1;camp 1 0");
        for (int i = 0; i < 12; i++) {
            x.order(1, 1);
        }
        for (int i = 11; i > 0; i--) {
            x.ahead(i, i - 1, 999);
        }
        plans(c, x, 11 * 999 + 6, 11 * 999, 10 * 999, 9 * 999);
        x.ahead(0, 11, 1);
        plans(c, x, NONE, NONE);
    }

    @Sentence("SPAN: when the last one comes; none, if they cannot.")
    private static void cannotBe(Check c) {
        FlumeOrders x = Check.forestOf("reach 0 1;camp 1 0");
        for (int i = 0; i < 4; i++) {
            x.order(1, 1 + i);
        }
        x.ahead(0, 1, 1);
        x.ahead(1, 0, 1);
        plans(c, x, NONE, NONE, NONE, NONE, NONE);
        c.throwsDue("of none", () -> x.plan(4), Check.INDEX);
        x.ahead(1, 0, 0);
        x.ahead(1, 2, 1);
        x.ahead(2, 3, 1);
        plans(c, x, 9, 0, 0, 0, 0);
        x.ahead(3, 0, 1);
        plans(c, x, NONE, NONE, NONE, NONE, NONE);
        x.ahead(2, 3, 0);
        // 3 needs 9 minutes, 0 comes a minute behind it, and so on.
        plans(c, x, 12, 4, 4, 4, 0);
    }

    @Sentence("By WATER of now, without FROST, STICK and BEND: the least minute for each")
    private static void planOfNow(Check c) {
        FlumeOrders x = Check.forestOf("reach 0 1 stick 99 bend 1;camp 1 0;frost 0 23");
        x.order(1, 9);
        x.order(1, 1);
        x.water(9);
        x.ahead(0, 1, 1);
        plans(c, x, 11, 0, 9);
        x.water(1);
        plans(c, x, 19, 0, 9);
        Check.forest(x, "reach 0 20");
        plans(c, x, 361, 0, 161);
    }

    @Sentence("billionths: 1000000000, by each REACH times (100 less STICK) by 100, rounded down.")
    private static void chanceOfNoReach(Check c) {
        FlumeOrders x = Check.forestOf("reach 0 1 stick 99;camp 1 0");
        for (int station = 0; station <= 2; station++) {
            c.due("from " + station + " to it", x.chance(station, station), BILLION);
        }
        c.due("by stick 99", x.chance(0, 1), BILLION / 100);
        c.due("by stick 0", x.chance(1, 2), BILLION);
    }

    @Sentence("billionths: 1000000000, by each REACH times (100 less STICK) by 100, rounded down.")
    private static void chanceRoundedByEachReach(Check c) {
        FlumeOrders x = Check.forestOf("reach 0 1 stick 97;camp 1 0;reach 1 1 stick 97;camp 1 0;reach 2 1 stick 97;camp 1 0;"
            + "reach 3 1 stick 97;camp 1 0;reach 4 1 stick 97;camp 1 0;reach 5 1 stick 51;camp 1 0;reach 6 1 stick 51");
        // 810, 24.3, 11.76, 5.39: without rounding each time, the last one would be 5.83.
        c.due("chance(0, 4)", x.chance(0, 4), 810);
        c.due("chance(0, 5)", x.chance(0, 5), 24);
        c.due("chance(0, 6)", x.chance(0, 6), 11);
        c.due("chance(0, 7)", x.chance(0, 7), 5);
        FlumeOrders y = new FlumeOrders();
        for (int r = 0; r < 10; r++) {
            Check.forest(y, "reach " + r + " 1 stick 99" + (r < 9 ? ";camp 1 0" : ""));
        }
        c.due("10 billionths", y.chance(0, 4), 10);
        c.due("a tenth of one", y.chance(0, 5), 0);
        c.due("none is left", y.chance(0, 10), 0);
    }

    @Sentence("the fewest (0 to 99) by which the doubt")
    private static void fewestRepeats(Check c) {
        FlumeOrders x = Check.forestOf("reach 0 1 stick 99;camp 1 0");
        c.due("without any", x.repeats(0, 1, 1000000), 0);
        c.due("by one", x.repeats(0, 1, 999999), 1);
        // The 98th leaves 373464.1 millionths, the 99th 369729.4.
        c.due("by 98", x.repeats(0, 1, 373465), 98);
        c.due("by 99", x.repeats(0, 1, 373464), 99);
        c.due("by 99 yet", x.repeats(0, 1, 369730), 99);
        c.due("by none", x.repeats(0, 1, 369729), NONE);
        c.due("where nothing sticks", x.repeats(1, 2, 0), 1);
        c.due("of no way", x.repeats(1, 1, 0), 1);
    }

    @Sentence("times (1000000000 less CHANCE) by 1000000000, rounded down) is so many millionths at most; none.")
    private static void doubt(Check c) {
        FlumeOrders x = Check.forestOf("reach 0 1 stick 50");
        c.due("half of it, at most", x.repeats(0, 1, 500000), 1);
        c.due("less than half", x.repeats(0, 1, 499999), 2);
        // 30 halves, rounded down each time, leave nothing of a billion; 29 leave 1.
        c.due("nothing", x.repeats(0, 1, 0), 30);
        FlumeOrders y = new FlumeOrders();
        for (int r = 0; r < 5; r++) {
            Check.forest(y, "reach " + r + " 1 stick 99" + (r < 4 ? ";camp 1 0" : ""));
        }
        c.due("by a chance of nothing", y.repeats(0, 5, 999999), NONE);
        c.due("by a chance of nothing, without doubt", y.repeats(0, 5, 1000000), 0);
        c.due("by 10 of a billion", y.repeats(0, 4, 999999), NONE);
    }

    private static void fits(Check c, FlumeOrders x, String row, int orders, String first) {
        c.due("orders of " + row, Check.fits(x, row, NONE), orders);
        for (int k = 0; k <= row.length(); k++) {
            int due = k < first.length() ? first.charAt(k) - '0' : NONE;
            c.due("first of " + row + ", " + k, Check.fits(x, row, k), due);
        }
    }

    @Sentence("CHIPS were THROWN at the office, one each minute, from minute 0 on; at the MILL they came in a told order (of WEIGHTS,"
        + " 1 to 6 CHIPS;")
    private static void rows(Check c) {
        FlumeOrders x = Check.forestOf("reach 0 10");
        c.due("none", Check.fits(x, "", NONE), Check.ARGUMENT);
        fits(c, x, "1", 1, "1");
        fits(c, x, "9", 1, "9");
        fits(c, x, "123456", 720, "123456");
        fits(c, x, "213456", 0, "");
        c.due("seven", Check.fits(x, "1234567", NONE), Check.ARGUMENT);
        c.due("weight 0", Check.fits(x, "10", NONE), Check.ARGUMENT);
        c.due("behind weight 9", Check.fits(x, "1:", NONE), Check.ARGUMENT);
    }

    @Sentence("of those that come in one minute the one THROWN first is first")
    private static void rowsOfOneMinute(Check c) {
        FlumeOrders x = Check.forestOf("reach 0 1");
        // By a weight more a chip needs a minute more: the heavier one, thrown ahead by a minute, comes in the same one.
        fits(c, x, "21", 1, "21");
        fits(c, x, "12", 1, "12");
        fits(c, x, "31", 0, "");
        fits(c, x, "13", 2, "13");
        fits(c, x, "321", 1, "321");
        // By two weights more it must be thrown two minutes ahead: 3 4 1 comes at 8 10 8.
        fits(c, x, "314", 1, "341");
        fits(c, x, "341", 0, "");
    }

    @Sentence("by WATER of now, without FROST, STICK and BEND; of those that come")
    private static void rowsByTheWholeWay(Check c) {
        FlumeOrders x = Check.forestOf("reach 0 1 stick 99 bend 1;frost 0 23");
        fits(c, x, "21", 1, "21");
        Check.forest(x, "camp 1 0");
        fits(c, x, "21", 0, "");
        fits(c, x, "12", 2, "12");
        x.water(1);
        fits(c, x, "12", 2, "12");
    }

    @Sentence("(those of one WEIGHT are not told apart); the first, by WEIGHTS.")
    private static void rowsOfOneWeight(Check c) {
        FlumeOrders x = Check.forestOf("reach 0 10");
        fits(c, x, "1", 1, "1");
        fits(c, x, "111111", 1, "111111");
        fits(c, x, "112", 3, "112");
        fits(c, x, "111222", 20, "111222");
        fits(c, x, "112233", 90, "112233");
        fits(c, x, "121", 0, "");
        FlumeOrders y = Check.forestOf("reach 0 1");
        // 1 1 3 comes at 6 7 10, 1 3 1 at 6 9 8, and 3 1 1 at 8 7 8: the first one of that minute is 3.
        fits(c, y, "113", 2, "113");
        fits(c, y, "131", 1, "311");
    }

    @Sentence("a test CHIP from a STATION to a later one (0 to N and 1) tells whether it is among those between.")
    private static void testToTheMill(Check c) {
        FlumeOrders x = Check.forestOf(Check.camps(11));
        c.due("the last two reaches", x.test(3 << 10), 11);
        c.due("the first two", x.test(3), 1);
        c.due("the first and the last", x.test(1 | 1 << 11), 1);
        c.due("all twelve", x.test(4095), 6);
        c.due("one reach at the least between them", x.test(3 << 4), 5);
    }

    @Sentence("The one by which the most that may be left is the fewest: by the STATION, then the later one, the least;")
    private static void leastOfTheBest(Check c) {
        FlumeOrders x = Check.forestOf(Check.camps(4));
        // One of three is left, or two, wherever one cuts: the first place is the least.
        c.due("0 1 2", x.test(7), 1);
        c.due("0 2 4", x.test(21), 1);
        c.due("1 2 3 4", x.test(30), 3);
        c.due("all five", x.test(31), 2);
        c.due("2 and 4: behind 2, though 4 would do as well", x.test(20), 3);
    }

    @Sentence("none with fewer than two.")
    private static void testOfFewerThanTwo(Check c) {
        FlumeOrders x = Check.forestOf(Check.camps(4));
        c.due("none", x.test(0), NONE);
        for (int r = 0; r <= 4; r++) {
            c.due("reach " + r, x.test(1 << r), NONE);
        }
        c.due("two", x.test(3), 1);
        c.due("of one reach there are no two", new FlumeOrders().test(-1), NONE);
    }

    @Sentence("LOOKED AHEAD: so many MINUTES (0 to 2000), nothing stays.")
    private static void minutesAheadOfNow(Check c) {
        FlumeOrders x = Check.forestOf("reach 0 1;camp 1 5");
        Check.chip(x, 0, 1, "to 1;cut 3;send 2;answer");
        c.throwsDue("-1", () -> x.later(-1, 0), Check.ARGUMENT);
        c.due("0", x.later(0, 4), 1);
        c.due("6", x.later(6, 3), 0);
        c.due("7", x.later(7, 3), 2);
        c.due("2000", x.later(2000, 0), 1);
        c.throwsDue("2001", () -> x.later(2001, 0), Check.ARGUMENT);
    }

    @Sentence("LOOKED AHEAD: so many MINUTES (0 to 2000), nothing stays.")
    private static void nothingStays(Check c) {
        FlumeOrders x = Check.forestOf("reach 0 1 stick 50;camp 1 5");
        for (int i = 0; i < 4; i++) {
            Check.chip(x, 0, 1, "all;cut 2;send 1;answer;void 3");
        }
        x.feed(0, 0, 0, 0, 0);
        int then = x.later(500, 3);
        c.due("again", x.later(500, 3), then);
        c.due("the tape stays", x.end(20), true);
        int[] counts = {1, 1, 4, 0, 0, 5, 0, 0, 0, 0};
        for (int what = 0; what < counts.length; what++) {
            c.due("count(" + what + ")", x.count(what), counts[what]);
        }
        c.due("trees", x.camp(1, 0), 5);
        c.due("in reach 0", x.reach(0, 3), 0);
        x.run(1);
        int[] draws = {38, 58, 13, 15};
        for (int i = 0; i < draws.length; i++) {
            c.due("the draws are as without", x.look(i, 0), draws[i] < 50 ? 2 : 1);
        }
    }

    @Sentence("THE IMAGE (one) of all may be kept, and gone back to")
    private static void oneImage(Check c) {
        FlumeOrders x = Check.forestOf("reach 0 2");
        c.due("none was kept", x.back(), false);
        Check.chip(x, 0, 1, "mill");
        x.run(5);
        x.image();
        for (int i = 0; i < 3; i++) {
            c.due("run(8)", x.run(8), 1);
            c.due("back", x.back(), true);
            c.due("clock", x.count(4), 5);
            c.looks(x, 0, 1, 0, 8, 0);
            c.due("out", x.count(3), 0);
        }
        x.run(1);
        x.image();
        x.run(1);
        c.due("back", x.back(), true);
        c.due("to the latest image", x.count(4), 6);
    }

    @Sentence("(but for the TAPE, fault() and THE IMAGE itself).")
    private static void notOfTheImage(Check c) {
        FlumeOrders x = new FlumeOrders();
        Check.forest(x, "water 0");
        Check.feed(x, "water 7");
        x.image();
        c.due("the tape is left by the image", x.end(7), true);
        c.due("the text on it", Check.answer(x::forest), 1);
        c.due("its water", x.count(5), 7);
        c.due("fault", x.fault(), NONE);
        Check.feed(x, "seed 12");
        c.due("back", x.back(), true);
        c.due("the fault stays", x.fault(), NONE);
        c.due("the tape stays", x.end(7), true);
        c.due("it is the later one", Check.answer(x::forest), 1);
        c.due("water", x.count(5), 5);
        c.due("the image is there yet", x.back(), true);
        c.due("texts", x.count(1), 0);
    }
}
