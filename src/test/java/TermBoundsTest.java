/** The bounds of numbers that stand in the first part of the terms, of stations, frost and clock. */
public final class TermBoundsTest {
    private static final int WAITS = 0;
    private static final int GOES = 1;
    private static final int STICKS = 2;
    private static final int DAY = 24 * 60;

    public static void main(String[] args) throws Exception {
        Sentences.hold(TermBoundsTest.class);
    }

    @Sentence("N 0 to 11; none at first")
    private static void camps(Check c) {
        FlumeOrders x = new FlumeOrders();
        c.due("camps at first", x.count(0), 0);
        c.throwsDue("camp(1) at first", () -> x.camp(1, 0), Check.INDEX);
        c.due("11 camps", Check.forest(x, Check.camps(11)), 1);
        c.due("camps", x.count(0), 11);
        c.due("trees of camp 11", x.camp(11, 0), 5);
        c.throwsDue("camp(12)", () -> x.camp(12, 0), Check.INDEX);
        c.due("a 12th", Check.forest(x, "camp 1 5"), Check.ARGUMENT);
        c.due("camps", x.count(0), 11);
    }

    @Sentence("N and 1 the MILL")
    private static void mill(Check c) {
        FlumeOrders x = new FlumeOrders();
        c.due("to station 1", Check.answer(() -> x.time(0, 1, 1, 5)), 60);
        c.throwsDue("to station 2", () -> x.time(0, 2, 1, 5), Check.INDEX);
        Check.forest(x, Check.camps(11));
        c.due("to station 12", Check.answer(() -> x.time(11, 12, 1, 5)), 6);
        c.throwsDue("to station 13", () -> x.time(0, 13, 1, 5), Check.INDEX);
    }

    @Sentence("REACH R (0 to N) leads from STATION R to the next one")
    private static void reaches(Check c) {
        FlumeOrders x = Check.forestOf("reach 0 2;camp 3 5;camp 4 5");
        c.throwsDue("reach(-1)", () -> x.reach(-1, 0), Check.INDEX);
        for (int r = 0; r < 3; r++) {
            c.due("length of reach " + r, x.reach(r, 0), r + 2);
            c.due("from its station to the next one", x.time(r, r + 1, 1, 5), 6 * (r + 2));
        }
        c.throwsDue("reach(3)", () -> x.reach(3, 0), Check.INDEX);
    }

    @Sentence("LENGTH 1 to 20 (10 of REACH 0 at first)")
    private static void length(Check c) {
        c.due("at first", new FlumeOrders().reach(0, 0), 10);
        for (int length = 1; length <= 20; length += 19) {
            FlumeOrders x = Check.forestOf("camp " + length + " 5;reach 0 " + length);
            c.due("of reach 0", x.reach(0, 0), length);
            c.due("of reach 1", x.reach(1, 0), length);
        }
        c.forestFault("camp 0 5", 5);
        c.forestFault("camp 21 5", 5);
        c.forestFault("reach 0 0", 8);
        c.forestFault("reach 0 21", 8);
    }

    @Sentence("STICK 0 to 99 (0)")
    private static void stick(Check c) {
        FlumeOrders x = new FlumeOrders();
        c.due("at first", x.reach(0, 1), 0);
        c.due("99", Check.forest(x, "reach 0 5 stick 99"), 1);
        c.due("it is 99", x.reach(0, 1), 99);
        c.due("0", Check.forest(x, "reach 0 5 stick 0"), 2);
        c.due("it is 0", x.reach(0, 1), 0);
        c.forestFault("reach 0 5 stick 100", 16);
    }

    @Sentence("BEND 0 to 9 (0: none)")
    private static void bend(Check c) {
        FlumeOrders x = new FlumeOrders();
        c.due("at first", x.reach(0, 2), 0);
        c.due("9", Check.forest(x, "reach 0 5 bend 9"), 1);
        c.due("it is 9", x.reach(0, 2), 9);
        c.due("0", Check.forest(x, "reach 0 5 bend 0"), 2);
        c.due("it is 0", x.reach(0, 2), 0);
        c.forestFault("reach 0 5 bend 10", 15);
    }

    @Sentence("BEND 0 to 9 (0: none)")
    private static void bendNoughtHoldsNoneBack(Check c) {
        for (String text : new String[] {"reach 0 5", "reach 0 5 bend 0", "reach 0 5 bend 9"}) {
            FlumeOrders x = Check.forestOf(text);
            for (int i = 0; i < 60; i++) {
                Check.chip(x, 0, 1, "mill");
            }
            x.run(1);
            c.due("in the reach by " + text, x.reach(0, 3), text.endsWith("9") ? 9 : 60);
        }
    }

    @Sentence("TREES 0 to 999; LOGS and SENT 0 at first")
    private static void trees(Check c) {
        FlumeOrders x = Check.forestOf("camp 5 0;camp 5 999");
        c.due("no trees", x.camp(1, 0), 0);
        c.due("999 trees", x.camp(2, 0), 999);
        for (int camp = 1; camp <= 2; camp++) {
            c.due("logs at first", x.camp(camp, 1), 0);
            c.due("sent at first", x.camp(camp, 2), 0);
        }
        c.forestFault("camp 5 1000", 7);
    }

    @Sentence("WATER 1 to 9 (5 at first)")
    private static void water(Check c) {
        FlumeOrders x = new FlumeOrders();
        c.due("at first", x.count(5), 5);
        c.due("1", Check.forest(x, "water 1"), 1);
        c.due("it is 1", x.count(5), 1);
        c.due("9", Check.forest(x, "water 9"), 2);
        c.due("it is 9", x.count(5), 9);
        c.forestFault(x, "water 0", 6);
        c.forestFault(x, "water 10", 6);
        c.due("it is 9 yet", x.count(5), 9);
    }

    @Sentence("FROST from an hour to another one (0 to 23 each;")
    private static void hoursOfFrost(Check c) {
        c.forestRight("frost 0 23");
        c.forestRight("frost 23 0");
        c.forestFault("frost 24 0", 6);
        c.forestFault("frost 0 24", 8);
    }

    /** Frost is to be from the one minute on, and no more at the other one, and so on each day. */
    private static void frostFromTo(Check c, String text, int from, int to) {
        FlumeOrders x = Check.forestOf(text);
        int[] minutes = {0, Math.min(from, to) - 1, Math.min(from, to), Math.max(from, to) - 1, Math.max(from, to), DAY - 1,
            DAY, DAY + Math.min(from, to) - 1, DAY + Math.min(from, to)};
        for (int minute : minutes) {
            Check.run(x, minute - x.count(4));
            int clock = x.count(4);
            int ofDay = clock % DAY;
            boolean isFrost = from < to ? ofDay >= from && ofDay < to : ofDay >= from || ofDay < to;
            c.due(text + ": frost at minute " + clock, x.count(9), isFrost ? 1 : 0);
        }
    }

    @Sentence("from the first on, before the second one")
    private static void frostOfOneDay(Check c) {
        frostFromTo(c, "frost 3 5", 180, 300);
        frostFromTo(c, "frost 0 1", 0, 60);
        frostFromTo(c, "frost 22 23", 1320, 1380);
        frostFromTo(c, "frost 0 23", 0, 1380);
    }

    @Sentence("round midnight if it is less")
    private static void frostRoundMidnight(Check c) {
        frostFromTo(c, "frost 23 1", 1380, 60);
        frostFromTo(c, "frost 22 2", 1320, 120);
        frostFromTo(c, "frost 23 0", 1380, 0);
        frostFromTo(c, "frost 1 0", 60, 0);
    }

    @Sentence("none if they are one, as at first")
    private static void noFrost(Check c) {
        for (String text : new String[] {"", "frost 0 0", "frost 7 7", "frost 23 23", "frost 7 9;frost 12 12"}) {
            FlumeOrders x = Check.forestOf(text);
            for (int hour = 0; hour <= 24; hour++) {
                c.due("'" + text + "': frost at " + hour, x.count(9), 0);
                x.run(60);
            }
        }
    }

    @Sentence("CLOCK: minutes from 0 on")
    private static void clock(Check c) {
        FlumeOrders x = new FlumeOrders();
        c.due("at first", x.count(4), 0);
        x.run(1);
        c.due("after a minute", x.count(4), 1);
        x.run(2000);
        c.due("after 2001", x.count(4), 2001);
    }

    /** The hour that a chip's question finds in a minute, from the sixth on: by each act a bit of it becomes logs. */
    private static int hourAt(int minute) {
        FlumeOrders x = Check.forestOf("reach 0 1;camp 1 31");
        Check.run(x, minute - 6);
        StringBuilder acts = new StringBuilder("to 1");
        for (int bit = 16; bit > 0; bit /= 2) {
            acts.append(";cut " + bit + " if hour+1>logs+" + bit);
        }
        Check.chip(x, 0, 1, acts.toString());
        x.run(7);
        return x.camp(1, 1);
    }

    @Sentence("the hour: CLOCK by 60, rounded down, modulo 24")
    private static void hour(Check c) {
        int[][] due = {{6, 0}, {59, 0}, {60, 1}, {119, 1}, {120, 2}, {DAY - 61, 22}, {DAY - 60, 23}, {DAY - 1, 23}, {DAY, 0},
            {DAY + 59, 0}, {DAY + 60, 1}, {2 * DAY - 1, 23}, {2 * DAY, 0}};
        for (int[] d : due) {
            c.due("hour in minute " + d[0], hourAt(d[0]), d[1]);
        }
    }

    @Sentence("SEED 1 at first")
    private static void seed(Check c) {
        // From 1 the first draw is 38.
        for (String text : new String[] {"reach 0 5 stick ", "seed 1;reach 0 5 stick "}) {
            for (int stick = 38; stick <= 39; stick++) {
                FlumeOrders x = Check.forestOf(text + stick);
                Check.chip(x, 0, 1, "mill");
                c.due("it waits", x.look(0, 0), WAITS);
                x.run(1);
                c.due(text + stick, x.look(0, 0), stick == 39 ? STICKS : GOES);
            }
        }
    }
}
