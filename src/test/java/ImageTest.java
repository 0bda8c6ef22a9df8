/** Promises 24 and 25: the image is of all, also of what is made anew when one has gone back. */
public final class ImageTest {
    private static final Check CHECK = new Check();

    public static void main(String[] args) {
        promise24And25OfAll();
        promise25Chips();
        promise25Camps();
        promise25CampsMadeAnew();
        promise25NotchesCutAnew();
        CHECK.over("ImageTest");
    }

    private static void promise24And25OfAll() {
        FlumeOrders x = Check.forestOf("camp 3 30;frost 0 0;seed 1;water 9");
        x.order(1, 1);
        x.order(1, 2);
        x.ahead(0, 1, 40);
        x.image();
        Check.forest(x, "camp 4 4;reach 0 1 stick 99 bend 1;water 1;frost 0 23;seed 7");
        x.order(2, 1);
        x.ahead(1, 2, 9);
        x.ahead(0, 1, 50);
        x.ahead(1, 0, 3);
        Check.chip(x, 0, 1, "to 1;cut 1");
        x.run(100);
        Check.forest(x, "saw");
        x.feed(0, 0, 0, 0, 0);
        CHECK.due("back", x.back(), true);
        int[] counts = {1, 1, 0, 0, 0, 9, 2, 0, 0, 0};
        for (int what = 0; what < counts.length; what++) {
            CHECK.due("count(" + what + ")", x.count(what), counts[what]);
        }
        CHECK.due("the fault stays", x.fault(), 0);
        CHECK.due("the tape stays", x.end(20), true);
        CHECK.due("reach 0", x.reach(0, 0), 10);
        CHECK.due("its stick", x.reach(0, 1), 0);
        CHECK.due("its bend", x.reach(0, 2), 0);
        CHECK.due("pair", x.ahead(0, 1, 40), 40);
        CHECK.due("pair", x.ahead(1, 0, 0), 0);
        CHECK.due("a new order", x.order(1, 1), 2);
        CHECK.due("without pairs", x.ahead(1, 2, 0), 0);
        CHECK.due("a camp more", Check.forest(x, "camp 5 6;reach 0 1 stick 39"), 2);
        CHECK.due("its trees", x.camp(2, 0), 6);
        CHECK.due("its reach", x.reach(2, 0), 5);
        Check.chip(x, 0, 1, "mill");
        x.run(1);
        CHECK.due("the seed is 1 again", x.look(0, 0), 2);
    }

    private static void promise25Chips() {
        FlumeOrders x = Check.forestOf("reach 0 1;camp 1 50");
        Check.chip(x, 0, 1, "to 1;cut 1;void 1");
        x.image();
        Check.chip(x, 0, 2, "to 1;cut 9");
        x.run(8);
        CHECK.due("chip 1 was void", x.camp(1, 0), 49);
        x.back();
        CHECK.due("chips", x.count(2), 1);
        CHECK.due("trees", x.camp(1, 0), 50);
        CHECK.due("another chip 1", Check.chip(x, 1, 2, "mill"), 1);
        CHECK.due("a wrong text leaves the kept chips alone", Check.chip(x, 1, 2, "all;cut 5;"), Check.ARGUMENT);
        x.back();
        Check.chip(x, 0, 1, "to 1;cut 7 if trees<50;answer");
        x.run(7);
        CHECK.due("its own notches", x.camp(1, 0), 49);
        x.back();
        x.run(7);
        CHECK.due("of chip 0 as they were", x.camp(1, 0), 49);
        Check.chip(x, 1, 1, "mill");
        Check.chip(x, 0, 1, "to 1;void 0");
        x.run(7);
        CHECK.due("late", x.camp(1, 3), 1);
        x.back();
        CHECK.due("not late", x.camp(1, 3), 0);
        Check.chip(x, 0, 1, "mill");
        Check.chip(x, 0, 1, "to 1;void 0");
        x.run(7);
        CHECK.due("late again", x.camp(1, 3), 1);
    }

    private static void promise25Camps() {
        FlumeOrders x = Check.forestOf("reach 0 1;camp 1 50");
        Check.chip(x, 0, 1, "all;cut 5;send 2");
        Check.chip(x, 0, 2, "to 1;void 0;void 3");
        x.run(3);
        x.image();
        x.run(10);
        x.back();
        for (int what = 1; what < 4; what++) {
            CHECK.due("camp(1, " + what + ")", x.camp(1, what), 0);
        }
        CHECK.due("when it went in", x.look(0, 4), 0);
        CHECK.due("nobody is out", x.pole(0), 0);
        // Chip 0 has not yet done its acts there, and chip 3 is not void there.
        CHECK.due("number", Check.chip(x, 1, 1, "mill"), 2);
        CHECK.due("number", Check.chip(x, 0, 1, "to 1;cut 1"), 3);
        CHECK.due("later nothing is late at first", x.later(4, 2), 0);
        x.run(7);
        CHECK.due("late by chip 1", x.camp(1, 3), 1);
        CHECK.due("chip 3 was void by then", x.camp(1, 0), 45);
        x.back();
        x.image();
        Check.forest(x, "reach 0 1 stick 99;seed 0");
        Check.chip(x, 0, 1, "mill");
        x.run(1);
        CHECK.due("it sticks", x.look(2, 0), 2);
        x.back();
        CHECK.due("it has never been", x.pole(0), 0);
        CHECK.due("another", Check.chip(x, 0, 1, "mill"), 2);
        CHECK.due("it has nothing to go", x.look(2, 2), 0);
    }

    private static void promise25CampsMadeAnew() {
        FlumeOrders x = Check.forestOf("reach 0 1");
        x.image();
        Check.forest(x, "camp 1 50");
        Check.chip(x, 0, 1, "to 1;cut 9;send 4;void 1;void 2");
        Check.chip(x, 0, 1, "to 1");
        x.run(1);
        Check.chip(x, 0, 1, "to 1");
        Check.chip(x, 0, 4, "to 1;void 0");
        Check.chip(x, 1, 9, "mill");
        x.run(10);
        CHECK.due("late", x.camp(1, 3), 1);
        CHECK.due("later", x.later(1, 3), 4);
        x.back();
        CHECK.due("a camp", Check.forest(x, "camp 1 30"), 2);
        int[] due = {30, 0, 0, 0};
        for (int what = 0; what < 4; what++) {
            CHECK.due("camp(1, " + what + ")", x.camp(1, what), due[what]);
        }
        CHECK.due("in its reach", x.reach(1, 3), 0);
        Check.chip(x, 0, 9, "to 1;cut 1");
        Check.chip(x, 0, 2, "to 1;cut 2");
        Check.chip(x, 0, 1, "to 1;void 0");
        x.run(8);
        CHECK.due("chip 1 is not void", x.camp(1, 0), 28);
        CHECK.due("chip 0 has done nothing yet", x.camp(1, 3), 0);
    }

    private static void promise25NotchesCutAnew() {
        FlumeOrders x = Check.forestOf("reach 0 1;camp 1 50;camp 1 50");
        x.image();
        for (int i = 0; i < 5; i++) {
            Check.chip(x, 0, 1, "mill;answer if " + "1+".repeat(150) + "1<2");
            x.back();
        }
        Check.chip(x, 0, 1, "all;cut 1 if " + "1+".repeat(150) + "1<2;cut 2 if " + "0+".repeat(30) + "1<2");
        x.run(14);
        CHECK.due("trees of 1", x.camp(1, 0), 48);
        CHECK.due("trees of 2", x.camp(2, 0), 48);
        x.back();
        Check.chip(x, 0, 1, "to 2;cut 3");
        x.run(14);
        CHECK.due("trees of 1", x.camp(1, 0), 50);
        CHECK.due("trees of 2", x.camp(2, 0), 47);
    }
}
