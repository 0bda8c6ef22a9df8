/** Promise 7: ordinary minutes, acts and questions. */
public final class MinutesTest {
    private static final Check CHECK = new Check();

    public static void main(String[] args) {
        promise7GoesAndComes();
        promise7HeavyAndLight();
        promise7Order();
        promise7Bends();
        promise7Frost();
        promise7Draws();
        promise7Acts();
        promise7Questions();
        promise7Answers();
        promise7Heads();
        promise7Voids();
        CHECK.over("MinutesTest");
    }

    private static void promise7GoesAndComes() {
        FlumeOrders x = Check.forestOf("reach 0 2;camp 1 0");
        Check.chip(x, 0, 3, "mill");
        CHECK.looks(x, 0, 0, 0, 0, 0);
        CHECK.due("run(1)", x.run(1), 0);
        CHECK.looks(x, 0, 1, 0, 16, 0);
        CHECK.due("run(15)", x.run(15), 0);
        CHECK.looks(x, 0, 1, 0, 1, 0);
        CHECK.due("run(1)", x.run(1), 0);
        // It comes to the camp and goes on in the same minute.
        CHECK.looks(x, 0, 1, 1, 8, 16);
        CHECK.due("run(7)", x.run(7), 0);
        CHECK.looks(x, 0, 1, 1, 1, 16);
        CHECK.due("run(1)", x.run(1), 1);
        CHECK.looks(x, 0, 4, 2, 0, 24);
        CHECK.due("clock", x.count(4), 25);
        CHECK.due("run(2000)", x.run(2000), 0);
        CHECK.due("clock", x.count(4), 2025);
    }

    private static void promise7HeavyAndLight() {
        FlumeOrders x = Check.forestOf("reach 0 1;water 9");
        Check.chip(x, 0, 9, "mill");
        Check.chip(x, 0, 1, "mill");
        // The light one needs 2 minutes, the heavy one 10: it is passed.
        CHECK.due("run(3)", x.run(3), 1);
        CHECK.due("out(0)", x.out(0), 1);
        CHECK.due("run(7)", x.run(7), 0);
        CHECK.due("run(1)", x.run(1), 1);
        CHECK.due("out(1)", x.out(1), 0);
    }

    private static void promise7Order() {
        FlumeOrders x = Check.forestOf("reach 0 1;water 9");
        // All come out in one minute: by numbers, whenever they went in.
        Check.chip(x, 0, 3, "mill");
        Check.chip(x, 0, 3, "mill");
        x.run(2);
        Check.chip(x, 0, 1, "mill");
        CHECK.due("run(2)", x.run(2), 0);
        CHECK.due("run(1)", x.run(1), 3);
        for (int i = 0; i < 3; i++) {
            CHECK.due("out(" + i + ")", x.out(i), i);
        }
        FlumeOrders y = Check.forestOf("reach 0 2 bend 1;camp 1 0;reach 1 1 bend 1");
        // Of a lower number, but later at camp 1: it waits behind.
        Check.chip(y, 0, 1, "mill");
        y.run(1);
        Check.chip(y, 1, 9, "mill");
        Check.chip(y, 1, 9, "mill");
        y.run(12);
        CHECK.looks(y, 1, 1, 1, 3, 1);
        CHECK.looks(y, 0, 0, 1, 0, 12);
        CHECK.looks(y, 2, 0, 1, 0, 1);
        y.run(3);
        CHECK.looks(y, 2, 1, 1, 14, 15);
        CHECK.looks(y, 0, 0, 1, 0, 12);
    }

    private static void promise7Bends() {
        FlumeOrders x = Check.forestOf("reach 0 1 bend 2");
        for (int i = 0; i < 5; i++) {
            Check.chip(x, 0, i == 0 ? 2 : 1, "mill");
        }
        x.run(1);
        CHECK.due("two in the bend", x.reach(0, 3), 2);
        CHECK.looks(x, 2, 0, 0, 0, 0);
        // Chip 1 is out after 6 minutes, chip 0 after 7; each lets one in, in the same minute.
        CHECK.due("run(5)", x.run(5), 0);
        CHECK.due("run(1)", x.run(1), 1);
        CHECK.looks(x, 2, 1, 0, 6, 6);
        CHECK.looks(x, 3, 0, 0, 0, 0);
        CHECK.due("run(1)", x.run(1), 1);
        CHECK.looks(x, 3, 1, 0, 6, 7);
        CHECK.looks(x, 4, 0, 0, 0, 0);
        CHECK.due("run(5)", x.run(5), 1);
        CHECK.looks(x, 4, 1, 0, 6, 12);
        CHECK.due("a smaller bend lets those in it go", Check.forest(x, "reach 0 1 bend 1"), 2);
        Check.chip(x, 0, 1, "mill");
        CHECK.due("run(1)", x.run(1), 1);
        CHECK.looks(x, 5, 0, 0, 0, 13);
        CHECK.due("run(5)", x.run(5), 1);
        CHECK.looks(x, 5, 1, 0, 6, 18);
        FlumeOrders y = Check.forestOf("reach 0 1 stick 99 bend 1;seed 0");
        Check.chip(y, 0, 1, "mill");
        Check.chip(y, 0, 1, "mill");
        y.run(500);
        CHECK.looks(y, 0, 2, 0, 6, 0);
        CHECK.looks(y, 1, 0, 0, 0, 0);
        CHECK.due("no bend any more", Check.forest(y, "reach 0 1"), 2);
        y.run(1);
        CHECK.looks(y, 1, 1, 0, 6, 500);
    }

    private static void promise7Frost() {
        FlumeOrders x = Check.forestOf("frost 0 1;reach 0 1");
        Check.chip(x, 0, 1, "mill");
        x.run(60);
        CHECK.looks(x, 0, 0, 0, 0, 0);
        x.run(1);
        CHECK.looks(x, 0, 1, 0, 6, 60);
        CHECK.due("run(6)", x.run(6), 1);
        FlumeOrders y = Check.forestOf("frost 1 3;reach 0 20");
        Check.chip(y, 0, 1, "mill");
        y.run(60);
        CHECK.looks(y, 0, 1, 0, 61, 0);
        CHECK.due("frost", y.count(9), 1);
        y.run(120);
        CHECK.looks(y, 0, 1, 0, 61, 0);
        CHECK.due("no frost", y.count(9), 0);
        CHECK.due("run(60)", y.run(60), 0);
        CHECK.due("run(1)", y.run(1), 1);
        CHECK.looks(y, 0, 4, 1, 0, 240);
        FlumeOrders z = Check.forestOf("frost 22 2;reach 0 20");
        z.run(120);
        CHECK.due("no frost at 2", z.count(9), 0);
        z.run(1199);
        CHECK.due("no frost at 21:59", z.count(9), 0);
        z.run(1);
        CHECK.due("frost at 22", z.count(9), 1);
        z.run(239);
        CHECK.due("frost at 1:59", z.count(9), 1);
        z.run(1);
        CHECK.due("no frost at 2", z.count(9), 0);
        FlumeOrders never = Check.forestOf("frost 5 5");
        for (int hour = 0; hour < 25; hour++) {
            CHECK.due("frost at " + hour, never.count(9), 0);
            never.run(60);
        }
    }

    private static void promise7Draws() {
        // From seed 1 on the draws are 38 58 13 15 51 27 10 19 12 86.
        int[] draws = {38, 58, 13, 15, 51, 27, 10, 19, 12, 86};
        for (int stick : new int[] {13, 38, 39, 58, 59, 99}) {
            FlumeOrders x = Check.forestOf("reach 0 1 stick " + stick + ";seed 1");
            for (int i = 0; i < draws.length; i++) {
                Check.chip(x, 0, 1, "mill");
            }
            x.run(1);
            for (int i = 0; i < draws.length; i++) {
                CHECK.due("stick " + stick + ", draw " + i, x.look(i, 0), draws[i] < stick ? 2 : 1);
            }
        }
        FlumeOrders z = Check.forestOf("reach 0 1 stick 50;camp 1 0;reach 1 1 stick 1");
        Check.chip(z, 0, 1, "mill");
        Check.chip(z, 1, 1, "mill");
        z.run(1);
        CHECK.due("a stick of 1 draws, too: 58 is for chip 0", z.look(0, 0), 1);
        FlumeOrders y = Check.forestOf("reach 0 1;camp 1 0;reach 1 1 stick 50");
        Check.chip(y, 0, 1, "mill");
        Check.chip(y, 1, 1, "mill");
        y.run(1);
        CHECK.due("no draw where nothing sticks: 38 is for chip 1", y.look(1, 0), 2);
        y.run(6);
        CHECK.due("58 is for chip 0", y.look(0, 0), 1);
    }

    private static void promise7Acts() {
        FlumeOrders x = Check.forestOf("reach 0 1;camp 1 5");
        Check.chip(x, 0, 1, "to 1;send 2;cut 3;send 2;cut 4;send 9;cut 1");
        x.run(7);
        CHECK.looks(x, 0, 3, 1, 0, 6);
        CHECK.due("trees", x.camp(1, 0), 0);
        CHECK.due("logs", x.camp(1, 1), 0);
        CHECK.due("sent", x.camp(1, 2), 5);
        Check.chip(x, 1, 1, "all;cut 1");
        x.run(7);
        CHECK.due("nothing is done where it is thrown", x.camp(1, 0), 0);
        FlumeOrders y = Check.forestOf("reach 0 1;camp 1 9;camp 1 9");
        Check.chip(y, 0, 1, "all;cut 2;send 1");
        y.run(7);
        CHECK.looks(y, 0, 1, 1, 6, 6);
        y.run(6);
        CHECK.looks(y, 0, 1, 2, 6, 12);
        for (int camp = 1; camp < 3; camp++) {
            CHECK.due("trees", y.camp(camp, 0), 7);
            CHECK.due("logs", y.camp(camp, 1), 1);
            CHECK.due("sent", y.camp(camp, 2), 1);
        }
        CHECK.due("sent by all", y.count(8), 2);
    }

    /** Whether a question holds at a camp of 3 trees, 2 logs, 1 sent, water 6, at 2 o'clock, for a weight of 4. */
    private static boolean holds(String question) {
        FlumeOrders x = Check.forestOf("reach 0 1;camp 1 6;water 6");
        x.run(60);
        x.run(60);
        Check.chip(x, 0, 4, "to 1;cut 3;send 1;answer if " + question);
        x.run(9);
        CHECK.due("trees", x.camp(1, 0), 3);
        return x.count(2) == 2;
    }

    private static void promise7Questions() {
        String[] hold = {"trees > 2", "trees < 4", "logs+1>2", "logs < 3", "sent>0", "sent<2", "water>5", "water<7", "hour>1",
            "hour<3", "weight>3", "weight<5", "not frost", "trees+logs+sent+water+hour+weight > 17",
            "trees+logs+sent+water+hour+weight<19", "frost or 1<2", "1<2 or frost", "1<2 and 2<3", "1<2 or 1<2 and frost",
            "frost and frost or 1<2", "not (frost or frost)", "not frost and not frost", "not not 1<2", "not frost or frost",
            "(1<2 or 1<2) and not frost", "1 < 2 and (frost or not frost)"};
        for (String q : hold) {
            CHECK.due(q, holds(q), true);
            CHECK.due("not(" + q + ")", holds("not(" + q + ")"), false);
        }
        String[] dont = {"trees>3", "trees<3", "logs>2", "logs<2", "sent>1", "sent<1", "water>6", "water<6", "hour>2", "hour<2",
            "weight>4", "weight<4", "frost", "frost or 2<1", "1<2 and 2<1", "(1<2 or 1<2) and frost", "not 1<2 or frost",
            "not (frost or 1<2)", "not frost and frost", "1+1<1+1", "1+1>1+1"};
        for (String q : dont) {
            CHECK.due(q, holds(q), false);
        }
        FlumeOrders x = Check.forestOf("reach 0 1;camp 1 6");
        Check.chip(x, 0, 1, "to 1;cut 5 if trees<6;cut 1;cut 2 if trees<6;send 1 if logs>3;send 2 if logs>2;cut 1 if sent>1");
        x.run(7);
        CHECK.due("each act asks just then: trees", x.camp(1, 0), 2);
        CHECK.due("logs", x.camp(1, 1), 2);
        CHECK.due("sent", x.camp(1, 2), 2);
    }

    private static void promise7Answers() {
        FlumeOrders x = Check.forestOf("reach 0 1;camp 1 9");
        Check.chip(x, 0, 2, "all;answer;cut 4;answer;send 1;answer");
        x.run(8);
        CHECK.due("chips", x.count(2), 4);
        int[] told = {0, 4, 3};
        for (int i = 0; i < 3; i++) {
            CHECK.due("weight", x.look(i + 1, 3), 1);
            CHECK.due("number", x.look(i + 1, 5), told[i]);
            CHECK.looks(x, i + 1, 1, 1, 6, 7);
        }
        CHECK.due("number of another", x.look(0, 5), FlumeOrders.NONE);
        CHECK.looks(x, 0, 1, 1, 7, 7);
        CHECK.due("answers are lighter", x.run(6), 3);
        CHECK.due("run(1)", x.run(1), 1);
        FlumeOrders y = Check.forestOf("reach 0 1;camp 1 9;camp 1 9");
        for (int i = 0; i < 59; i++) {
            Check.chip(y, 0, i == 0 ? 1 : 9, i == 0 ? "all;answer;cut 2;answer;answer" : "mill");
        }
        y.run(7);
        CHECK.due("60 at most", y.count(2), 60);
        CHECK.due("the first answer", y.look(59, 5), 0);
        y.run(6);
        CHECK.due("acts are done without answers", y.camp(2, 0), 7);
        CHECK.due("60 at most", y.count(2), 60);
        FlumeOrders z = Check.forestOf("reach 0 1;camp 1 9;camp 1 9");
        Check.chip(z, 0, 1, "to 1;answer");
        z.run(20);
        CHECK.looks(z, 1, 4, 3, 0, 18);
        CHECK.due("an answer is for the mill", z.camp(2, 0), 9);
    }

    private static void promise7Heads() {
        FlumeOrders x = Check.forestOf("reach 0 1;camp 1 9;camp 1 9");
        Check.chip(x, 0, 1, "to 2;cut 1");
        Check.chip(x, 0, 1, "mill;cut 1");
        Check.chip(x, 0, 1, "to 3;cut 1");
        Check.chip(x, 2, 1, "to 2;cut 1");
        Check.chip(x, 1, 1, "to 1;cut 1");
        x.run(30);
        CHECK.looks(x, 0, 3, 2, 0, 12);
        CHECK.looks(x, 1, 4, 3, 0, 18);
        CHECK.looks(x, 2, 4, 3, 0, 18);
        CHECK.looks(x, 3, 4, 3, 0, 6);
        CHECK.looks(x, 4, 4, 3, 0, 12);
        CHECK.due("trees of 1", x.camp(1, 0), 9);
        CHECK.due("trees of 2", x.camp(2, 0), 8);
    }

    private static void promise7Voids() {
        FlumeOrders x = Check.forestOf("reach 0 1;camp 1 50;camp 1 50");
        Check.chip(x, 0, 1, "to 1;void 1;void 3;void 4");
        Check.chip(x, 0, 2, "to 1;cut 1;void 0");
        Check.chip(x, 0, 1, "to 2;void 3");
        x.run(7);
        Check.chip(x, 0, 1, "all;cut 2");
        Check.chip(x, 0, 1, "to 1;cut 4");
        x.run(30);
        CHECK.looks(x, 1, 3, 1, 0, 7);
        CHECK.looks(x, 3, 4, 3, 0, 25);
        CHECK.looks(x, 4, 3, 1, 0, 13);
        CHECK.due("nothing was done at 1", x.camp(1, 0), 50);
        CHECK.due("nothing was late at 1", x.camp(1, 3), 0);
        CHECK.due("nothing was done at 2", x.camp(2, 0), 50);
        FlumeOrders y = Check.forestOf("reach 0 1;camp 1 50;camp 1 50");
        Check.chip(y, 0, 1, "all;cut 1");
        Check.chip(y, 0, 1, "to 1");
        Check.chip(y, 0, 1, "mill");
        Check.chip(y, 0, 1, "to 2");
        Check.chip(y, 1, 1, "to 1");
        Check.chip(y, 0, 3, "to 1;void 0;void 0;void 1;void 2;void 3;void 4;void 9");
        y.run(20);
        CHECK.due("0 twice, and 1", y.camp(1, 3), 3);
        CHECK.due("none at 2", y.camp(2, 3), 0);
        CHECK.due("late of all", y.count(7), 3);
        CHECK.due("it was done", y.camp(1, 0), 49);
        CHECK.due("it was done", y.camp(2, 0), 49);
        FlumeOrders z = Check.forestOf("reach 0 1;camp 1 50");
        Check.chip(z, 0, 1, "to 1;cut 1;void 1");
        Check.chip(z, 0, 1, "to 1;cut 2;void 0");
        z.run(7);
        CHECK.due("of one minute, by numbers: trees", z.camp(1, 0), 49);
        CHECK.due("late", z.camp(1, 3), 0);
        Check.chip(z, 0, 1, "to 1;void 1");
        z.run(7);
        CHECK.due("one that did nothing is not late", z.camp(1, 3), 0);
    }
}
