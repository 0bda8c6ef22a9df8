/** Promise 5: chips are thrown, and of promise 6 what their notches leave in fault(). */
public final class ChipTextTest {
    private static final Check CHECK = new Check();

    public static void main(String[] args) {
        promise5();
        promise5WhatIsRefused();
        promise5MostChips();
        promise5RightNotches();
        promise6Heads();
        promise6Acts();
        promise6Questions();
        promise6Depth();
        promise6MostActs();
        CHECK.over("ChipTextTest");
    }

    private static void promise5() {
        FlumeOrders x = new FlumeOrders();
        Check.forest(x, "camp 1 1");
        x.run(7);
        CHECK.due("at the office", Check.chip(x, 0, 1, "to 1"), 0);
        CHECK.due("at camp 1", Check.chip(x, 1, 9, "mill"), 1);
        int[][] due = {{0, 0, 0, 1, 7, -1}, {0, 1, 0, 9, 7, -1}};
        for (int c = 0; c < 2; c++) {
            for (int what = 0; what < 6; what++) {
                CHECK.due("look(" + c + ", " + what + ")", x.look(c, what), due[c][what]);
            }
        }
        CHECK.due("chips", x.count(2), 2);
    }

    private static void promise5WhatIsRefused() {
        FlumeOrders x = new FlumeOrders();
        Check.forest(x, "camp 1 1;water");
        CHECK.due("fault", x.fault(), 14);
        CHECK.due("at the mill", Check.chip(x, 1, 0, "x"), Check.INDEX);
        CHECK.due("the tape is used up", x.end(1), false);
        CHECK.due("beyond it", Check.chip(x, 2, 1, "x"), Check.INDEX);
        CHECK.due("below 0", Check.chip(x, -1, 1, "x"), Check.INDEX);
        CHECK.due("weight 0", Check.chip(x, 0, 0, "x"), Check.ARGUMENT);
        CHECK.due("the tape is used up", x.end(1), false);
        CHECK.due("weight 10", Check.chip(x, 0, 10, "x"), Check.ARGUMENT);
        CHECK.due("the text was not read", x.fault(), 14);
        CHECK.due("a wrong text", Check.chip(x, 0, 1, " x"), Check.ARGUMENT);
        CHECK.due("the tape is used up", x.end(1), false);
        CHECK.due("it was read", x.fault(), 1);
        CHECK.due("chips", x.count(2), 0);
    }

    private static void promise5MostChips() {
        FlumeOrders x = new FlumeOrders();
        for (int i = 0; i < 60; i++) {
            CHECK.due("chip " + i, Check.chip(x, 0, i % 9 + 1, i == 59 ? "all;cut 1 if 1<2" : "mill"), i);
        }
        CHECK.due("a 61st that is wrong", Check.chip(x, 0, 1, "mill;"), Check.ARGUMENT);
        CHECK.due("fault", x.fault(), 5);
        CHECK.due("a 61st without weight", Check.chip(x, 0, 0, "mill"), Check.ARGUMENT);
        CHECK.due("a 61st", Check.chip(x, 0, 1, "mill;cut 2"), Check.UNSUPPORTED);
        CHECK.due("fault", x.fault(), FlumeOrders.NONE);
        CHECK.due("the tape is used up", x.end(1), false);
        CHECK.due("chips", x.count(2), 60);
        CHECK.due("all come out", x.run(200), 60);
    }

    private static void promise5RightNotches() {
        CHECK.chipRight("to 11");
        CHECK.chipRight("  all  ");
        CHECK.chipRight("mill;cut 999;send 1");
        CHECK.chipRight("mill;cut 1;send 999;answer;void 0;void 59");
        CHECK.chipRight("to 001;cut001if frost");
        CHECK.chipRight("all;answer if not not not not not not frost");
        CHECK.chipRight("all;answer if((((((frost))))))");
        CHECK.chipRight("all;answer if not(not(not(0<999)))and not(not(not(frost)))or((((((1>trees+logs+sent+water+hour+weight))))))");
        CHECK.chipRight("all;send 3 if trees + 1 < logs and frost or 2 > 1;answer");
        CHECK.chipRight("to 3;" + "void 1;".repeat(7) + "void 1");
        CHECK.chipRight("all;answer if " + "1+".repeat(190) + "1<2");
    }

    private static void promise6Heads() {
        CHECK.chipFault("", 0);
        CHECK.chipFault("   ", 3);
        CHECK.chipFault("to", 2);
        CHECK.chipFault("to 0", 3);
        CHECK.chipFault("to 12", 3);
        CHECK.chipFault("to 0001", 3);
        CHECK.chipFault("to all", 3);
        CHECK.chipFault("all 1", 4);
        CHECK.chipFault("mills", 0);
        CHECK.chipFault("mill mill", 5);
        CHECK.chipFault("go", 0);
        CHECK.chipFault("3", 0);
        CHECK.chipFault(";", 0);
        CHECK.chipFault("cut 1", 0);
        CHECK.chipFault("mill,", 4);
    }

    private static void promise6Acts() {
        CHECK.chipFault("all;", 4);
        CHECK.chipFault("all ; ", 6);
        CHECK.chipFault("all;cut", 7);
        CHECK.chipFault("all;cut 0", 8);
        CHECK.chipFault("all;cut 1000", 8);
        CHECK.chipFault("all;send 0", 9);
        CHECK.chipFault("all;send logs", 9);
        CHECK.chipFault("all;answer 5", 11);
        CHECK.chipFault("all;void", 8);
        CHECK.chipFault("all;void 60", 9);
        CHECK.chipFault("all;void 5 if frost", 11);
        CHECK.chipFault("all;saw 1", 4);
        CHECK.chipFault("all;all", 4);
        CHECK.chipFault("all;;cut 1", 4);
        CHECK.chipFault("all;cut 1 2", 10);
        CHECK.chipFault("all;cut 1iffrost", 9);
    }

    private static void promise6Questions() {
        CHECK.chipFault("all;cut 1 if", 12);
        CHECK.chipFault("all;cut 1 if ;", 13);
        CHECK.chipFault("all;cut 1 if logs", 17);
        CHECK.chipFault("all;cut 1 if logs;answer", 17);
        CHECK.chipFault("all;cut 1 if logs+", 18);
        CHECK.chipFault("all;cut 1 if logs<", 18);
        CHECK.chipFault("all;cut 1 if logs=1", 17);
        CHECK.chipFault("all;cut 1 if logs<1<2", 19);
        CHECK.chipFault("all;cut 1 if logs<1 2", 20);
        CHECK.chipFault("all;cut 1 if logs<1000", 18);
        CHECK.chipFault("all;cut 1 if birds<1", 13);
        CHECK.chipFault("all;cut 1 if +1<2", 13);
        CHECK.chipFault("all;cut 1 if <2", 13);
        CHECK.chipFault("all;cut 1 if 1<>2", 15);
        CHECK.chipFault("all;cut 1 if 1++1<2", 15);
        CHECK.chipFault("all;cut 1 if 1<birds", 15);
        CHECK.chipFault("all;cut 1 if frost<2", 18);
        CHECK.chipFault("all;cut 1 if 2<frost", 15);
        CHECK.chipFault("all;cut 1 if frost and", 22);
        CHECK.chipFault("all;cut 1 if frost or", 21);
        CHECK.chipFault("all;cut 1 if frost and or", 23);
        CHECK.chipFault("all;cut 1 if and frost", 13);
        CHECK.chipFault("all;cut 1 if frost not frost", 19);
        CHECK.chipFault("all;cut 1 if not", 16);
        CHECK.chipFault("all;cut 1 if notfrost", 13);
        CHECK.chipFault("all;cut 1 if (frost", 19);
        CHECK.chipFault("all;cut 1 if (frost;answer", 19);
        CHECK.chipFault("all;cut 1 if frost)", 18);
        CHECK.chipFault("all;cut 1 if ()", 14);
        CHECK.chipFault("all;cut 1 if (1)<2", 15);
        CHECK.chipFault("all;cut 1 if (1+1<2)+1", 20);
        CHECK.chipFault("all;cut 1 if frost if frost", 19);
    }

    private static void promise6Depth() {
        CHECK.chipFault("all;answer if (((((((frost)))))))", 20);
        CHECK.chipFault("all;answer if not not not not not not not frost", 38);
        CHECK.chipFault("all;answer if not(not(not( (frost)))", 27);
        CHECK.chipFault("all;answer if not(not(not(not frost)))", 26);
        CHECK.chipFault("all;answer if not(not(not((frost))))", 26);
        CHECK.chipFault("all;answer if ((((((frost))))))and((((((not frost))))))", 40);
    }

    private static void promise6MostActs() {
        String act = "void 1;";
        CHECK.chipFault("mill;" + act.repeat(8) + "void 1", 61);
        CHECK.chipFault("mill;" + act.repeat(8) + " saw", 62);
        CHECK.chipFault("mill;" + act.repeat(8), 61);
        CHECK.chipFault("mill;" + act.repeat(8) + ";", 61);
    }
}
