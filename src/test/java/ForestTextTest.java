/** Promise 4: texts of the forest, and of promise 6 what they leave in fault(). */
public final class ForestTextTest {
    private static final Check CHECK = new Check();

    public static void main(String[] args) {
        promise4Lines();
        promise4Blanks();
        promise4CampsAtTheEnd();
        promise4CampThatCannotBe();
        promise4MostLines();
        promise4MostTexts();
        promise4NothingStaysOfAWrongText();
        promise6Bounds();
        promise6Order();
        promise6Latest();
        promise6BytesBehindTheText();
        CHECK.over("ForestTextTest");
    }

    private static void promise4Lines() {
        FlumeOrders x = new FlumeOrders();
        CHECK.due("all lines", Check.forest(x, "camp 5 999;reach 0 20 stick 99 bend 9;water 9;frost 23 0;seed 999"), 1);
        CHECK.due("camps", x.count(0), 1);
        CHECK.due("trees", x.camp(1, 0), 999);
        CHECK.due("logs", x.camp(1, 1), 0);
        CHECK.due("sent", x.camp(1, 2), 0);
        CHECK.due("late", x.camp(1, 3), 0);
        CHECK.due("length", x.reach(0, 0), 20);
        CHECK.due("stick", x.reach(0, 1), 99);
        CHECK.due("bend", x.reach(0, 2), 9);
        CHECK.due("water", x.count(5), 9);
        CHECK.due("a reach without stick and bend", Check.forest(x, "reach 0 3"), 2);
        CHECK.due("length 3", x.reach(0, 0), 3);
        CHECK.due("stick 0", x.reach(0, 1), 0);
        CHECK.due("bend 0", x.reach(0, 2), 0);
        CHECK.due("bend alone", Check.forest(x, "reach 1 7 bend 2"), 3);
        CHECK.due("bend 2", x.reach(1, 2), 2);
        CHECK.due("stick 0", x.reach(1, 1), 0);
        CHECK.due("the latest line of a kind holds", Check.forest(x, "water 3;water 4;reach 1 8;reach 1 9"), 4);
        CHECK.due("water 4", x.count(5), 4);
        CHECK.due("length 9", x.reach(1, 0), 9);
        CHECK.due("noughts", Check.forest(x, "reach 1 9 stick 0 bend 0;seed 0"), 5);
        CHECK.due("stick 0", x.reach(1, 1), 0);
        CHECK.due("bend 0", x.reach(1, 2), 0);
        CHECK.due("leading noughts", Check.forest(x, "water 007;frost 01 002"), 6);
        CHECK.due("water 7", x.count(5), 7);
    }

    private static void promise4Blanks() {
        FlumeOrders x = new FlumeOrders();
        CHECK.due("no line", Check.forest(x, ""), 1);
        CHECK.due("blanks alone", Check.forest(x, "     "), 2);
        CHECK.due("blanks between all", Check.forest(x, "  camp  4   7 ;  reach 0 1stick 2bend 3  ;water8  "), 3);
        CHECK.due("trees", x.camp(1, 0), 7);
        CHECK.due("stick", x.reach(0, 1), 2);
        CHECK.due("bend", x.reach(0, 2), 3);
        CHECK.due("water", x.count(5), 8);
        CHECK.due("no blanks where none are needed", Check.forest(x, "camp5 6;seed1;frost1 2"), 4);
        CHECK.due("camps", x.count(0), 2);
    }

    private static void promise4CampsAtTheEnd() {
        FlumeOrders x = new FlumeOrders();
        CHECK.due("forest", Check.forest(x, "reach 0 3 stick 4 bend 5;camp 6 7;camp 8 9"), 1);
        int[][] reaches = {{3, 4, 5}, {6, 0, 0}, {8, 0, 0}};
        for (int r = 0; r < 3; r++) {
            for (int what = 0; what < 3; what++) {
                CHECK.due("reach " + r + ", " + what, x.reach(r, what), reaches[r][what]);
            }
        }
        CHECK.due("trees of 1", x.camp(1, 0), 7);
        CHECK.due("trees of 2", x.camp(2, 0), 9);
        CHECK.due("a reach that the text itself has made", Check.forest(x, "camp 1 0;reach 3 2 stick 1"), 2);
        CHECK.due("its stick", x.reach(3, 1), 1);
        CHECK.due("the mill's reach goes on to the new camp", Check.forest(x, "camp 9 1"), 3);
        CHECK.due("it keeps its stick", x.reach(3, 1), 1);
        CHECK.due("the new one has none", x.reach(4, 1), 0);
    }

    private static void promise4CampThatCannotBe() {
        FlumeOrders x = new FlumeOrders();
        CHECK.due("11 camps", Check.forest(x, "camp 1 1;camp 1 1;camp 1 1;camp 1 1;camp 1 1;camp 1 1;camp 1 1;camp 1 1;"
            + "camp 1 1;camp 1 1;camp 20 0"), 1);
        CHECK.due("camps", x.count(0), 11);
        CHECK.due("the last reach", x.reach(11, 0), 20);
        CHECK.due("a 12th", Check.forest(x, "water 2; camp 1 1"), Check.ARGUMENT);
        CHECK.due("fault at its first word", x.fault(), 9);
        CHECK.due("reach 11 there is", Check.forest(x, "reach 11 4"), 2);
        FlumeOrders y = new FlumeOrders();
        CHECK.due("12 camps in one text", Check.forest(y, "camp 1 1;camp 1 1;camp 1 1;camp 1 1;camp 1 1;camp 1 1;camp 1 1;"
            + "camp 1 1;camp 1 1;camp 1 1;camp 1 1;camp 1 1"), Check.ARGUMENT);
        CHECK.due("fault at the 12th", y.fault(), 99);
        CHECK.due("none stayed", y.count(0), 0);
        CHECK.due("chip", Check.chip(y, 0, 1, "mill"), 0);
        CHECK.due("a camp with chips", Check.forest(y, " camp 1 1"), Check.ARGUMENT);
        CHECK.due("fault at its first word", y.fault(), 1);
        CHECK.due("a reach with chips", Check.forest(y, "reach 0 2"), 1);
    }

    private static void promise4MostLines() {
        FlumeOrders x = new FlumeOrders();
        String line = "seed 1;";
        CHECK.due("14 lines", Check.forest(x, line.repeat(13) + "seed 1"), 1);
        CHECK.due("15 lines", Check.forest(x, line.repeat(14) + " seed 1"), Check.ARGUMENT);
        CHECK.due("fault at the first word of the 15th", x.fault(), 99);
        CHECK.due("14 lines and a semicolon", Check.forest(x, line.repeat(14)), Check.ARGUMENT);
        CHECK.due("fault at the end", x.fault(), 98);
        CHECK.due("no more semicolons", Check.forest(x, line.repeat(15)), Check.ARGUMENT);
        CHECK.due("fault at the 15th", x.fault(), 98);
    }

    private static void promise4MostTexts() {
        FlumeOrders x = new FlumeOrders();
        for (int i = 1; i <= 10; i++) {
            CHECK.due("text " + i, Check.forest(x, "water " + (i % 9 + 1)), i);
        }
        CHECK.due("an 11th that is wrong", Check.forest(x, "water"), Check.ARGUMENT);
        CHECK.due("its fault", x.fault(), 5);
        CHECK.due("an 11th", Check.forest(x, "water 9"), Check.UNSUPPORTED);
        CHECK.due("it was read", x.fault(), FlumeOrders.NONE);
        CHECK.due("the tape is used up", x.end(1), false);
        CHECK.due("texts", x.count(1), 10);
        CHECK.due("water of the 10th", x.count(5), 2);
    }

    private static void promise4NothingStaysOfAWrongText() {
        FlumeOrders x = new FlumeOrders();
        CHECK.due("wrong at last", Check.forest(x, "camp 2 3;water 1;frost 0 5;seed 5;reach 0 1 stick 50 bend 2;saw"),
            Check.ARGUMENT);
        CHECK.due("camps", x.count(0), 0);
        CHECK.due("texts", x.count(1), 0);
        CHECK.due("water", x.count(5), 5);
        CHECK.due("frost", x.count(9), 0);
        CHECK.due("length", x.reach(0, 0), 10);
        CHECK.due("stick", x.reach(0, 1), 0);
        CHECK.due("the tape is used up", x.end(1), false);
    }

    private static void promise6Bounds() {
        CHECK.forestFault("camp 0 5", 5);
        CHECK.forestFault("camp 21 5", 5);
        CHECK.forestFault("camp 5 1000", 7);
        CHECK.forestFault("camp 0005 5", 5);
        CHECK.forestFault("reach 12 5", 6);
        CHECK.forestFault("reach 1 5", 6);
        CHECK.forestFault("camp 1 1;reach 2 5", 15);
        CHECK.forestFault("reach 0 0", 8);
        CHECK.forestFault("reach 0 21", 8);
        CHECK.forestFault("reach 0 5 stick 100", 16);
        CHECK.forestFault("reach 0 5 bend 10", 15);
        CHECK.forestFault("water 0", 6);
        CHECK.forestFault("water 10", 6);
        CHECK.forestFault("frost 24 0", 6);
        CHECK.forestFault("frost 0 24", 8);
        CHECK.forestFault("seed 1000", 5);
        CHECK.forestFault("seed -1", 5);
    }

    private static void promise6Order() {
        CHECK.forestFault(";", 0);
        CHECK.forestFault(" ;", 1);
        CHECK.forestFault("5", 0);
        CHECK.forestFault("camps 1 1", 0);
        CHECK.forestFault("campz 1 1", 0);
        CHECK.forestFault("campa 1 1", 0);
        CHECK.forestFault("camp{ 1 1", 4);
        CHECK.forestFault("camp` 1 1", 4);
        CHECK.forestFault("camp : 1", 5);
        CHECK.forestFault("camp / 1", 5);
        CHECK.forestFault("Camp 1 1", 0);
        CHECK.forestFault("campS 1 1", 4);
        CHECK.forestFault("camp", 4);
        CHECK.forestFault("camp  ", 6);
        CHECK.forestFault("camp ; 1", 5);
        CHECK.forestFault("camp 1 1 1", 9);
        CHECK.forestFault("camp 1 1 water 2", 9);
        CHECK.forestFault("water 5;", 8);
        CHECK.forestFault("water 5; ", 9);
        CHECK.forestFault("water 5;;water 6", 8);
        CHECK.forestFault("water 5x", 7);
        CHECK.forestFault("water\t5", 5);
        CHECK.forestFault("reach 0 5 bend 1 stick 2", 17);
        CHECK.forestFault("reach 0 5 stick 1 stick 2", 18);
        CHECK.forestFault("reach 0 5 stick", 15);
        CHECK.forestFault("reach 0 5 stick bend 1", 16);
        CHECK.forestFault("frost 1", 7);
        CHECK.forestFault("frost 1 2 3", 10);
        CHECK.forestFault("water 5\u00e9", 7);
        CHECK.forestFault("mill", 0);
    }

    private static void promise6Latest() {
        FlumeOrders x = new FlumeOrders();
        CHECK.due("ahead of any", x.fault(), FlumeOrders.NONE);
        Check.forest(x, "water 0");
        CHECK.due("of a wrong one", x.fault(), 6);
        Check.forest(x, "");
        CHECK.due("of a right one", x.fault(), FlumeOrders.NONE);
        Check.chip(x, 0, 1, "to");
        CHECK.due("of a chip", x.fault(), 2);
        x.image();
        Check.fits(x, "x", 0);
        CHECK.due("a row is no text", x.fault(), 2);
        Check.chip(x, 0, 1, "mill");
        CHECK.due("of a right chip", x.fault(), FlumeOrders.NONE);
        Check.chip(x, 0, 1, "mil");
        x.back();
        CHECK.due("the image does not keep it", x.fault(), 0);
    }

    private static void promise6BytesBehindTheText() {
        FlumeOrders x = new FlumeOrders();
        Check.feed(x, "water 59");
        x.end(7);
        CHECK.due("the number ends with the text", Check.answer(x::forest), 1);
        CHECK.due("water", x.count(5), 5);
        Check.feed(x, "campfire");
        x.end(4);
        CHECK.due("the word ends with the text", Check.answer(x::forest), Check.ARGUMENT);
        CHECK.due("fault", x.fault(), 4);
    }
}
