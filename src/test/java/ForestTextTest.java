/** Promise 4: what right texts of the forest do. */
public final class ForestTextTest {
    private static final Check CHECK = new Check();

    public static void main(String[] args) {
        promise4Lines();
        promise4Blanks();
        promise4CampsAtTheEnd();
        CHECK.over("ForestTextTest");
    }

    private static void promise4Lines() {
        FlumeOrders x = new FlumeOrders();
        CHECK.due("all lines", Check.forest(x, "camp 5 999;reach 0 20 stick 99 bend 9;water 9;frost 23 0;seed 999"), 1);
        CHECK.due("camps", x.count(0), 1);
        CHECK.due("trees", x.camp(1, 0), 999);
        CHECK.due("logs", x.camp(1, 1), 0);
        CHECK.due("sent", x.camp(1, 2), 0);
        CHECK.due("late", x.camp(1, 3), 0);
        CHECK.due("length", x.reach(0, 0), 20);
        CHECK.due("stick", x.reach(0, 1), 99);
        CHECK.due("bend", x.reach(0, 2), 9);
        CHECK.due("water", x.count(5), 9);
        CHECK.due("a reach without stick and bend", Check.forest(x, "reach 0 3"), 2);
        CHECK.due("length 3", x.reach(0, 0), 3);
        CHECK.due("stick 0", x.reach(0, 1), 0);
        CHECK.due("bend 0", x.reach(0, 2), 0);
        CHECK.due("bend alone", Check.forest(x, "reach 1 7 bend 2"), 3);
        CHECK.due("bend 2", x.reach(1, 2), 2);
        CHECK.due("stick 0", x.reach(1, 1), 0);
        CHECK.due("the latest line of a kind holds", Check.forest(x, "water 3;water 4;reach 1 8;reach 1 9"), 4);
        CHECK.due("water 4", x.count(5), 4);
        CHECK.due("length 9", x.reach(1, 0), 9);
        CHECK.due("noughts", Check.forest(x, "reach 1 9 stick 0 bend 0;seed 0"), 5);
        CHECK.due("stick 0", x.reach(1, 1), 0);
        CHECK.due("bend 0", x.reach(1, 2), 0);
        CHECK.due("leading noughts", Check.forest(x, "water 007;frost 01 002"), 6);
        CHECK.due("water 7", x.count(5), 7);
    }

    private static void promise4Blanks() {
        FlumeOrders x = new FlumeOrders();
        CHECK.due("no line", Check.forest(x, ""), 1);
        CHECK.due("blanks alone", Check.forest(x, "     "), 2);
        CHECK.due("blanks between all", Check.forest(x, "  camp  4   7 ;  reach 0 1stick 2bend 3  ;water8  "), 3);
        CHECK.due("trees", x.camp(1, 0), 7);
        CHECK.due("stick", x.reach(0, 1), 2);
        CHECK.due("bend", x.reach(0, 2), 3);
        CHECK.due("water", x.count(5), 8);
        CHECK.due("no blanks where none are needed", Check.forest(x, "camp5 6;seed1;frost1 2"), 4);
        CHECK.due("camps", x.count(0), 2);
    }

    private static void promise4CampsAtTheEnd() {
        FlumeOrders x = new FlumeOrders();
        CHECK.due("forest", Check.forest(x, "reach 0 3 stick 4 bend 5;camp 6 7;camp 8 9"), 1);
        int[][] reaches = {{3, 4, 5}, {6, 0, 0}, {8, 0, 0}};
        for (int r = 0; r < 3; r++) {
            for (int what = 0; what < 3; what++) {
                CHECK.due("reach " + r + ", " + what, x.reach(r, what), reaches[r][what]);
            }
        }
        CHECK.due("trees of 1", x.camp(1, 0), 7);
        CHECK.due("trees of 2", x.camp(2, 0), 9);
        CHECK.due("a reach that the text itself has made", Check.forest(x, "camp 1 0;reach 3 2 stick 1"), 2);
        CHECK.due("its stick", x.reach(3, 1), 1);
        CHECK.due("the mill's reach goes on to the new camp", Check.forest(x, "camp 9 1"), 3);
        CHECK.due("it keeps its stick", x.reach(3, 1), 1);
        CHECK.due("the new one has none", x.reach(4, 1), 0);
    }
}
