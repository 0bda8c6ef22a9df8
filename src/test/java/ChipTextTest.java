/** Promise 5: chips are thrown, and right notches are taken. */
public final class ChipTextTest {
    private static final Check CHECK = new Check();

    public static void main(String[] args) {
        promise5();
        promise5RightNotches();
        CHECK.over("ChipTextTest");
    }

    private static void promise5() {
        FlumeOrders x = new FlumeOrders();
        Check.forest(x, "camp 1 1");
        x.run(7);
        CHECK.due("at the office", Check.chip(x, 0, 1, "to 1"), 0);
        CHECK.due("at camp 1", Check.chip(x, 1, 9, "mill"), 1);
        int[][] due = {{0, 0, 0, 1, 7, -1}, {0, 1, 0, 9, 7, -1}};
        for (int c = 0; c < 2; c++) {
            for (int what = 0; what < 6; what++) {
                CHECK.due("look(" + c + ", " + what + ")", x.look(c, what), due[c][what]);
            }
        }
        CHECK.due("chips", x.count(2), 2);
    }

    private static void promise5RightNotches() {
        CHECK.chipRight("to 11");
        CHECK.chipRight("  all  ");
        CHECK.chipRight("mill;cut 999;send 1");
        CHECK.chipRight("mill;cut 1;send 999;answer;void 0;void 59");
        CHECK.chipRight("to 001;cut001if frost");
        CHECK.chipRight("all;answer if not not not not not not frost");
        CHECK.chipRight("all;answer if((((((frost))))))");
        CHECK.chipRight("all;answer if not(not(not(0<999)))and not(not(not(frost)))or((((((1>trees+logs+sent+water+hour+weight))))))");
        CHECK.chipRight("all;send 3 if trees + 1 < logs and frost or 2 > 1;answer");
        CHECK.chipRight("to 3;" + "void 1;".repeat(7) + "void 1");
        CHECK.chipRight("all;answer if " + "1+".repeat(190) + "1<2");
    }
}
