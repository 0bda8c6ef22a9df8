/** The bounds in the second part of the terms: chips, minutes, bends, draws, acts and poles. */
public final class MinuteBoundsTest {
    private static final int WAITS = 0;
    private static final int GOES = 1;
    private static final int STICKS = 2;
    private static final int TAKEN = 3;
    private static final int OUT = 4;

    public static void main(String[] args) throws Exception {
        Sentences.hold(MinuteBoundsTest.class);
    }

    private static void throwSome(FlumeOrders x, int count, int weight, String notches) {
        for (int i = 0; i < count; i++) {
            Check.chip(x, 0, weight, notches);
        }
    }

    @Sentence("CHIPS (at most 60, numbered from 0 on)")
    private static void mostChips(Check c) {
        FlumeOrders x = new FlumeOrders();
        for (int i = 0; i < 60; i++) {
            c.due("chip " + i, Check.chip(x, 0, 1, "mill"), i);
        }
        c.due("a 61st", Check.chip(x, 0, 1, "mill"), Check.UNSUPPORTED);
        c.due("chips", x.count(2), 60);
        c.due("weight of the last", x.look(59, 3), 1);
        c.due("all come out", x.run(61), 60);
        c.due("a 61st, though all are out", Check.chip(x, 0, 1, "mill"), Check.UNSUPPORTED);
    }

    @Sentence("WEIGHT 1 to 9, NOTCHES.")
    private static void weights(Check c) {
        FlumeOrders x = new FlumeOrders();
        c.due("0", Check.chip(x, 0, 0, "mill"), Check.ARGUMENT);
        c.due("1", Check.chip(x, 0, 1, "mill"), 0);
        c.due("9", Check.chip(x, 0, 9, "mill"), 1);
        c.due("10", Check.chip(x, 0, 10, "mill"), Check.ARGUMENT);
        c.due("weight of 0", x.look(0, 3), 1);
        c.due("weight of 1", x.look(1, 3), 9);
    }

    @Sentence("One is THROWN at a STATION (not the MILL): it waits there.")
    private static void stations(Check c) {
        FlumeOrders x = Check.forestOf("camp 1 0;camp 1 0");
        c.due("at -1", Check.chip(x, -1, 1, "mill"), Check.INDEX);
        for (int station = 0; station <= 2; station++) {
            c.due("at " + station, Check.chip(x, station, 1, "mill"), station);
            c.looks(x, station, WAITS, station, 0, 0);
        }
        c.due("at the mill", Check.chip(x, 3, 1, "mill"), Check.INDEX);
        c.due("at the mill of a new forest", Check.chip(new FlumeOrders(), 1, 1, "mill"), Check.INDEX);
    }

    @Sentence("TIME of a REACH for a WEIGHT by a WATER: LENGTH times (WEIGHT and 10 less WATER).")
    private static void shortestAndLongestTime(Check c) {
        FlumeOrders x = Check.forestOf("reach 0 1;water 9");
        Check.chip(x, 0, 1, "mill");
        c.due("run(2)", x.run(2), 0);
        c.due("in the minute 2", x.run(1), 1);
        FlumeOrders y = Check.forestOf("reach 0 20;water 1");
        Check.chip(y, 0, 9, "mill");
        c.due("run(360)", y.run(360), 0);
        c.due("in the minute 360", y.run(1), 1);
    }

    @Sentence("if there is no FROST (by the hour at its begin)")
    private static void frostBeginsAndEnds(Check c) {
        FlumeOrders x = Check.forestOf("frost 1 2;reach 0 1");
        x.run(53);
        Check.chip(x, 0, 1, "mill");
        x.run(1);
        Check.chip(x, 0, 1, "mill");
        x.run(5);
        Check.chip(x, 0, 1, "mill");
        c.due("the last minute ahead of frost", x.run(1), 1);
        c.looks(x, 0, OUT, 1, 0, 59);
        c.looks(x, 1, GOES, 0, 1, 54);
        c.looks(x, 2, GOES, 0, 6, 59);
        Check.chip(x, 0, 1, "mill");
        c.due("all of the frost", x.run(60), 0);
        c.looks(x, 1, GOES, 0, 1, 54);
        c.looks(x, 2, GOES, 0, 6, 59);
        c.looks(x, 3, WAITS, 0, 0, 60);
        c.due("the first minute behind the frost", x.run(1), 1);
        c.looks(x, 1, OUT, 1, 0, 120);
        c.looks(x, 2, GOES, 0, 5, 59);
        c.looks(x, 3, GOES, 0, 6, 120);
    }

    @Sentence("if there is no FROST (by the hour at its begin)")
    private static void frostWithinOneRun(Check c) {
        FlumeOrders x = Check.forestOf("frost 1 2;reach 0 20");
        Check.chip(x, 0, 1, "mill");
        x.run(100);
        c.looks(x, 0, GOES, 0, 61, 0);
        FlumeOrders y = Check.forestOf("frost 1 2;reach 0 20");
        Check.chip(y, 0, 1, "mill");
        c.due("120 minutes, and those of frost", y.run(180), 0);
        c.due("run(1)", y.run(1), 1);
        c.looks(y, 0, OUT, 1, 0, 180);
    }

    @Sentence("each CHIP that goes in a REACH has one minute less to go; those that have none, by numbers, come to the next STATION")
    private static void comeByNumbers(Check c) {
        FlumeOrders x = Check.forestOf("reach 0 1;camp 1 9");
        // 0 needs twice 6 minutes, 1 once 12: it went into reach 1 first.
        Check.chip(x, 0, 1, "mill");
        Check.chip(x, 1, 7, "mill");
        c.due("run(12)", x.run(12), 0);
        c.looks(x, 0, GOES, 1, 1, 6);
        c.looks(x, 1, GOES, 1, 1, 0);
        c.due("both in one minute", x.run(1), 2);
        c.due("out(0)", x.out(0), 0);
        c.due("out(1)", x.out(1), 1);
        FlumeOrders y = Check.forestOf("reach 0 1;camp 1 9");
        Check.chip(y, 0, 1, "to 1;cut 3 if logs<1");
        Check.chip(y, 0, 1, "to 1;cut 1 if logs>2");
        y.run(7);
        c.due("acts are done in that order", y.camp(1, 1), 4);
    }

    @Sentence("each CHIP that goes in a REACH has one minute less to go; those that have none, by numbers, come to the next STATION")
    private static void oneMinuteLessToGo(Check c) {
        FlumeOrders x = Check.forestOf("reach 0 1");
        for (int weight = 1; weight <= 3; weight++) {
            Check.chip(x, 0, weight, "mill");
        }
        c.due("run(7)", x.run(7), 1);
        c.looks(x, 1, GOES, 0, 1, 0);
        c.looks(x, 2, GOES, 0, 2, 0);
        c.due("run(1)", x.run(1), 1);
        c.looks(x, 2, GOES, 0, 1, 0);
        c.due("run(1)", x.run(1), 1);
    }

    @Sentence("one enters, if there is no BEND, or fewer CHIPS than that are in the REACH (what sticks, too)")
    private static void fullBend(Check c) {
        FlumeOrders x = Check.forestOf("reach 0 1 bend 2");
        throwSome(x, 5, 1, "mill");
        x.run(1);
        c.due("in the bend", x.reach(0, 3), 2);
        x.run(5);
        c.looks(x, 2, WAITS, 0, 0, 0);
        c.due("two come out", x.run(1), 2);
        c.due("two went in, in the same minute", x.reach(0, 3), 2);
        c.looks(x, 3, GOES, 0, 6, 6);
        c.looks(x, 4, WAITS, 0, 0, 0);
    }

    @Sentence("one enters, if there is no BEND, or fewer CHIPS than that are in the REACH (what sticks, too)")
    private static void bendFullOfWhatSticks(Check c) {
        // From seed 0 on the draws are 0 68 88.
        FlumeOrders x = Check.forestOf("reach 0 1 stick 69 bend 2;seed 0");
        throwSome(x, 3, 1, "mill");
        x.run(2000);
        c.due("both stick", x.reach(0, 3), 2);
        c.looks(x, 2, WAITS, 0, 0, 0);
        c.due("a pole", x.pole(0), 2);
        c.due("they come out", x.run(6), 2);
        c.due("the third one went in", x.reach(0, 3), 1);
    }

    @Sentence("one enters, if there is no BEND, or fewer CHIPS than that are in the REACH (what sticks, too)")
    private static void bendMadeSmallerThanWhatIsInIt(Check c) {
        FlumeOrders x = Check.forestOf("reach 0 1 bend 3");
        throwSome(x, 3, 1, "mill");
        x.run(1);
        Check.forest(x, "reach 0 1 bend 1");
        throwSome(x, 1, 1, "mill");
        c.due("run(5)", x.run(5), 0);
        c.due("in it yet", x.reach(0, 3), 3);
        c.due("all three come out", x.run(1), 3);
        c.looks(x, 3, GOES, 0, 6, 6);
    }

    @Sentence("else it, and all behind it, wait on.")
    private static void allBehindWaitOn(Check c) {
        FlumeOrders x = Check.forestOf("reach 0 1 bend 1");
        throwSome(x, 2, 9, "mill");
        throwSome(x, 2, 1, "mill");
        c.due("run(14)", x.run(14), 0);
        c.looks(x, 1, WAITS, 0, 0, 0);
        c.looks(x, 2, WAITS, 0, 0, 0);
        c.due("run(1)", x.run(1), 1);
        c.looks(x, 1, GOES, 0, 14, 14);
        c.looks(x, 2, WAITS, 0, 0, 0);
        c.looks(x, 3, WAITS, 0, 0, 0);
    }

    @Sentence("by when they came there, then by numbers: one enters")
    private static void whoCameFirst(Check c) {
        FlumeOrders x = Check.forestOf("reach 0 2 bend 1;camp 1 0;reach 1 1 bend 1");
        Check.chip(x, 0, 1, "mill");
        x.run(1);
        Check.chip(x, 1, 9, "mill");
        Check.chip(x, 1, 9, "mill");
        x.run(12);
        c.looks(x, 0, WAITS, 1, 0, 12);
        c.looks(x, 1, GOES, 1, 3, 1);
        c.looks(x, 2, WAITS, 1, 0, 1);
        x.run(3);
        c.looks(x, 0, WAITS, 1, 0, 12);
        c.looks(x, 2, GOES, 1, 14, 15);
    }

    @Sentence("by when they came there, then by numbers: one enters")
    private static void ofOneMinuteByNumbers(Check c) {
        FlumeOrders x = Check.forestOf("reach 0 1;camp 1 0;reach 1 1 bend 1");
        Check.chip(x, 0, 1, "mill");
        x.run(6);
        // Thrown at the clock of the minute in which the other one comes.
        Check.chip(x, 1, 1, "mill");
        x.run(1);
        c.looks(x, 0, GOES, 1, 6, 6);
        c.looks(x, 1, WAITS, 1, 0, 6);
    }

    @Sentence("then, from REACH N down to 0: those that wait at its begin")
    private static void fromTheMillUp(Check c) {
        // From seed 1 on the draws are 38 58 13.
        FlumeOrders x = Check.forestOf("reach 0 1 stick 30;camp 1 0;reach 1 1 stick 30;camp 1 0;reach 2 1 stick 30");
        for (int station = 0; station <= 2; station++) {
            Check.chip(x, station, 1, "mill");
        }
        x.run(1);
        c.due("38 is for reach 2", x.look(2, 0), GOES);
        c.due("58 is for reach 1", x.look(1, 0), GOES);
        c.due("13 is for reach 0", x.look(0, 0), STICKS);
    }

    @Sentence("It has TIME to go then (by WATER of now).")
    private static void waterOfNow(Check c) {
        FlumeOrders x = Check.forestOf("reach 0 2");
        Check.chip(x, 0, 1, "mill");
        x.water(9);
        x.run(1);
        c.looks(x, 0, GOES, 0, 4, 0);
        x.water(1);
        c.looks(x, 0, GOES, 0, 4, 0);
        Check.forest(x, "reach 0 20");
        c.due("run(3)", x.run(3), 0);
        c.due("run(1)", x.run(1), 1);
    }

    /** Of the document's rule, by numbers that do not go round. */
    private static int[] draws(int seed, int count) {
        int[] draws = new int[count];
        long s = seed;
        for (int i = 0; i < count; i++) {
            s = (1103515245L * s + 12345) % (1L << 32);
            draws[i] = (int) (s / 65536 % 32768 % 100);
        }
        return draws;
    }

    private static void drawsAreDue(Check c, int seed, int stick, int count) {
        FlumeOrders x = Check.forestOf("reach 0 1 stick " + stick + ";seed " + seed);
        throwSome(x, count, 1, "mill");
        x.run(1);
        int[] draws = draws(seed, count);
        for (int i = 0; i < count; i++) {
            c.due("seed " + seed + ", stick " + stick + ", draw " + i, x.look(i, 0), draws[i] < stick ? STICKS : GOES);
        }
    }

    @Sentence("SEED is 1103515245 times SEED and 12345, as an int that goes round; bits 16 to 30 modulo 100")
    private static void seedGoesRound(Check c) {
        for (int seed : new int[] {0, 1, 2, 500, 998, 999}) {
            for (int stick : new int[] {1, 30, 70, 99}) {
                drawsAreDue(c, seed, stick, 60);
            }
        }
    }

    @Sentence("below STICK it STICKS")
    private static void belowStick(Check c) {
        boolean isNought = false;
        boolean isMost = false;
        for (int seed = 0; seed <= 999; seed += 3) {
            int draw = draws(seed, 1)[0];
            isNought |= draw == 0;
            isMost |= draw == 99;
            for (int stick = Math.max(draw, 1); stick <= Math.min(draw + 1, 99); stick++) {
                drawsAreDue(c, seed, stick, 1);
            }
        }
        c.due("0 was drawn, and 99", isNought && isMost, true);
    }

    @Sentence("If STICK is above 0: DRAW")
    private static void noDrawWhereNothingSticks(Check c) {
        // From seed 1 on the draws are 38 58.
        FlumeOrders x = Check.forestOf("reach 0 1;camp 1 0;reach 1 1 stick 39;camp 1 0;reach 2 1");
        for (int station = 0; station <= 2; station++) {
            Check.chip(x, station, 1, "mill");
        }
        x.run(1);
        c.due("38 is for reach 1", x.look(1, 0), STICKS);
        FlumeOrders y = Check.forestOf("reach 0 1 stick 39;camp 1 0;reach 1 1 stick 1");
        Check.chip(y, 0, 1, "mill");
        Check.chip(y, 1, 1, "mill");
        y.run(1);
        c.due("38 was for reach 1, as it sticks by 1 at least", y.look(0, 0), GOES);
    }

    @Sentence("it does not go until a POLE frees it")
    private static void untilAPole(Check c) {
        FlumeOrders x = Check.forestOf("reach 0 1 stick 1;seed 0");
        Check.chip(x, 0, 1, "mill");
        c.due("run(2000)", x.run(2000), 0);
        c.looks(x, 0, STICKS, 0, 6, 0);
        Check.forest(x, "reach 0 1");
        c.due("run(2000)", x.run(2000), 0);
        c.looks(x, 0, STICKS, 0, 6, 0);
        c.due("a pole", x.pole(0), 1);
        c.looks(x, 0, GOES, 0, 6, 0);
        c.due("run(5)", x.run(5), 0);
        c.due("run(1)", x.run(1), 1);
    }

    @Sentence("Then (FROST or not) the CLOCK is 1 more.")
    private static void clockInFrost(Check c) {
        FlumeOrders x = Check.forestOf("frost 0 1");
        for (int minute = 0; minute < 62; minute++) {
            c.due("clock", x.count(4), minute);
            c.due("frost", x.count(9), minute < 60 ? 1 : 0);
            x.run(1);
        }
        FlumeOrders y = Check.forestOf("frost 1 0");
        y.run(2000);
        c.due("clock", y.count(4), 2000);
    }

    @Sentence("What comes to CAMP C: to C: it is TAKEN, all its ACTS are done there, in order")
    private static void taken(Check c) {
        FlumeOrders x = Check.forestOf("reach 0 1;camp 1 9;camp 1 9");
        Check.chip(x, 0, 1, "to 1;cut 5;send 4;cut 1");
        Check.chip(x, 0, 1, "to 2;cut 5");
        Check.chip(x, 0, 1, "to 3;cut 5");
        x.run(2000);
        c.looks(x, 0, TAKEN, 1, 0, 6);
        c.looks(x, 1, TAKEN, 2, 0, 12);
        c.looks(x, 2, OUT, 3, 0, 18);
        c.due("logs of 1", x.camp(1, 1), 2);
        c.due("sent of 1", x.camp(1, 2), 4);
        c.due("logs of 2", x.camp(2, 1), 5);
    }

    @Sentence("all: ACTS are done, and it waits to go on; else it waits. What comes to the MILL is OUT.")
    private static void passesOn(Check c) {
        FlumeOrders x = Check.forestOf("reach 0 1;camp 1 9;reach 1 1 bend 1;camp 1 9");
        Check.chip(x, 1, 9, "mill;cut 9");
        Check.chip(x, 0, 1, "all;cut 2");
        Check.chip(x, 0, 1, "mill;cut 9");
        x.run(7);
        c.looks(x, 1, WAITS, 1, 0, 6);
        c.looks(x, 2, WAITS, 1, 0, 6);
        c.due("logs of 1", x.camp(1, 1), 2);
        c.due("all come out", x.run(60), 3);
        c.due("logs of 1", x.camp(1, 1), 2);
        c.due("logs of 2", x.camp(2, 1), 2);
        c.due("they are at the mill", x.look(1, 1), 3);
    }

    @Sentence("(At the STATION where it is THROWN nothing is done.)")
    private static void nothingWhereItIsThrown(Check c) {
        FlumeOrders x = Check.forestOf("reach 0 1;camp 1 9;camp 1 9");
        Check.chip(x, 1, 1, "to 1;cut 5");
        Check.chip(x, 1, 1, "all;cut 2");
        x.run(13);
        c.looks(x, 0, OUT, 3, 0, 12);
        c.looks(x, 1, OUT, 3, 0, 12);
        c.due("trees of 1", x.camp(1, 0), 9);
        c.due("trees of 2", x.camp(2, 0), 7);
    }

    @Sentence("cut: as many TREES as there are, N at most, are LOGS then.")
    private static void cut(Check c) {
        for (int most = 4; most <= 6; most++) {
            FlumeOrders x = Check.forestOf("reach 0 1;camp 1 5");
            Check.chip(x, 0, 1, "to 1;cut " + most + ";cut 1 if trees<1");
            x.run(7);
            c.due("trees after cut " + most, x.camp(1, 0), Math.max(5 - most, 0));
            c.due("logs after cut " + most, x.camp(1, 1), Math.min(5, most));
        }
    }

    @Sentence("send: as many LOGS, N at most, are SENT.")
    private static void send(Check c) {
        for (int most = 4; most <= 6; most++) {
            FlumeOrders x = Check.forestOf("reach 0 1;camp 1 9");
            Check.chip(x, 0, 1, "to 1;send 9;cut 5;send " + most + ";send 1 if logs<1");
            x.run(7);
            c.due("logs after send " + most, x.camp(1, 1), Math.max(5 - most, 0));
            c.due("sent after send " + most, x.camp(1, 2), Math.min(5, most));
        }
    }

    @Sentence("ACTS (each if its Q holds just then, at that CAMP; weight: of the CHIP)")
    private static void justThen(Check c) {
        FlumeOrders x = Check.forestOf("reach 0 1;camp 1 6;camp 1 50");
        Check.chip(x, 0, 3, "to 1;cut 5 if trees<6;cut 1;cut 2 if trees<6;send 1 if logs>3;send 2 if logs>2;cut 1 if sent>1"
            + ";cut 8 if weight<3 or weight>3");
        x.run(9);
        c.due("trees", x.camp(1, 0), 2);
        c.due("logs", x.camp(1, 1), 2);
        c.due("sent", x.camp(1, 2), 2);
    }

    /** Whether a question holds for a chip of weight 4, at a camp of 3 trees, 2 logs, 1 sent, by water 6, at 2 o'clock. */
    private static boolean asked(String question) {
        FlumeOrders x = Check.forestOf("reach 0 1;camp 1 6;water 6");
        x.run(120);
        Check.chip(x, 0, 4, "to 1;cut 3;send 1;answer if " + question);
        x.run(9);
        return x.count(2) == 2;
    }

    @Sentence("frost | SUM < SUM | SUM > SUM. SUM: PART { + PART }; PART: NUMBER | trees | logs | sent | water | hour | weight.")
    private static void lessAndMore(Check c) {
        String[] parts = {"trees", "logs", "sent", "water", "hour", "weight", "1+1+1", "trees+logs+sent+water+hour+weight", "0", "999",
            "999+999"};
        int[] due = {3, 2, 1, 6, 2, 4, 3, 18, 0, 999, 1998};
        for (int i = 0; i < parts.length; i++) {
            String near = due[i] > 999 ? "999+" + (due[i] - 999) : "" + due[i];
            c.due(parts[i] + " is not less than it is", asked(parts[i] + "<" + near), false);
            c.due(parts[i] + " is not more than it is", asked(parts[i] + ">" + near), false);
            c.due(parts[i] + " is less than a bit more", asked(parts[i] + "<" + near + "+1"), true);
            c.due(parts[i] + " and a bit is more", asked(parts[i] + "+1>" + near), true);
        }
    }

    @Sentence("ATOM: not ATOM | ( Q ) | frost | SUM < SUM | SUM > SUM.")
    private static void noFrostAsActsAreDone(Check c) {
        c.due("frost", asked("frost"), false);
        c.due("not frost", asked("not frost"), true);
        FlumeOrders x = Check.forestOf("reach 0 1;camp 1 9;frost 1 2");
        x.run(54);
        Check.chip(x, 0, 1, "to 1;cut 1 if frost;cut 2 if not frost;cut 4 if hour<2;cut 1 if hour>1");
        x.run(67);
        c.looks(x, 0, TAKEN, 1, 0, 120);
        c.due("it came when the frost was over", x.camp(1, 1), 3);
    }

    @Sentence("(nothing, if there are 60)")
    private static void sixtiethAnswer(Check c) {
        FlumeOrders x = Check.forestOf("reach 0 1;camp 1 9");
        throwSome(x, 1, 1, "to 1;answer;answer;cut 2");
        throwSome(x, 58, 9, "mill");
        x.run(7);
        c.due("chips", x.count(2), 60);
        c.due("number of the 60th", x.look(59, 5), 0);
        c.due("the other acts are done", x.camp(1, 1), 2);
        FlumeOrders y = Check.forestOf("reach 0 1;camp 1 9");
        throwSome(y, 1, 1, "to 1;answer;cut 2");
        throwSome(y, 59, 9, "mill");
        y.run(7);
        c.due("chips", y.count(2), 60);
        c.due("the other acts are done", y.camp(1, 1), 2);
        c.due("the last one is none's answer", y.look(59, 5), FlumeOrders.NONE);
    }

    @Sentence("answer: a CHIP for the MILL, WEIGHT 1, is THROWN there, its NUMBER the LOGS there then")
    private static void numberOfAnAnswer(Check c) {
        FlumeOrders x = Check.forestOf("reach 0 1;camp 1 999;camp 1 9");
        Check.chip(x, 0, 4, "to 1;answer;cut 999;answer;send 999;answer");
        x.run(10);
        int[] due = {0, 999, 0};
        for (int i = 0; i < 3; i++) {
            c.due("number", x.look(i + 1, 5), due[i]);
            c.due("weight", x.look(i + 1, 3), 1);
        }
        c.due("they come out", x.run(12), 3);
        c.due("nothing is done at 2", x.camp(2, 0), 9);
        FlumeOrders y = Check.forestOf("reach 0 1;camp 1 9;camp 1 9");
        Check.chip(y, 0, 1, "to 1;answer");
        y.image();
        Check.chip(y, 0, 1, "all;cut 5");
        y.back();
        y.run(20);
        c.due("the answer has the number of one that is no more", y.look(1, 5), 0);
        c.due("but not its notches", y.camp(2, 0), 9);
    }

    @Sentence("it waits from now on.")
    private static void answerWaitsFromNowOn(Check c) {
        FlumeOrders x = Check.forestOf("reach 0 1;camp 1 9");
        Check.chip(x, 0, 1, "to 1;answer");
        x.run(7);
        c.looks(x, 1, GOES, 1, 6, 6);
        FlumeOrders y = Check.forestOf("reach 0 1;camp 1 9;reach 1 20 bend 1");
        Check.chip(y, 0, 1, "to 1;answer");
        Check.chip(y, 1, 9, "mill");
        y.run(7);
        c.looks(y, 2, WAITS, 1, 0, 6);
        y.run(10);
        c.looks(y, 2, WAITS, 1, 0, 6);
    }

    @Sentence("NUMBER of others is NONE.")
    private static void numberOfOthers(Check c) {
        FlumeOrders x = Check.forestOf("reach 0 1;camp 1 9");
        Check.chip(x, 0, 1, "to 1;cut 3;answer");
        Check.chip(x, 0, 1, "mill");
        x.run(7);
        c.due("of one that answers", x.look(0, 5), FlumeOrders.NONE);
        c.due("of one for the mill", x.look(1, 5), FlumeOrders.NONE);
        c.due("of the answer", x.look(2, 5), 3);
    }

    @Sentence("void: CHIP K (it may be THROWN later) does nothing at this CAMP any more (it is TAKEN, or goes on;")
    private static void voidOfOneThrownLater(Check c) {
        FlumeOrders x = Check.forestOf("reach 0 1;camp 1 50;camp 1 50");
        Check.chip(x, 0, 1, "to 1;void 1;void 2;void 59");
        x.run(7);
        Check.chip(x, 0, 1, "to 1;cut 1");
        Check.chip(x, 0, 1, "all;cut 2;answer");
        x.run(13);
        c.looks(x, 1, TAKEN, 1, 0, 13);
        c.due("nothing at this camp", x.camp(1, 0), 50);
        c.looks(x, 2, GOES, 2, 6, 19);
        c.due("at another one yet", x.camp(2, 0), 48);
        c.due("late", x.count(7), 0);
    }

    @Sentence("void: CHIP K (it may be THROWN later) does nothing at this CAMP any more (it is TAKEN, or goes on;")
    private static void voidOfTheLastChip(Check c) {
        FlumeOrders x = Check.forestOf("reach 0 1;camp 1 50");
        Check.chip(x, 0, 1, "to 1;void 59");
        throwSome(x, 58, 9, "mill");
        x.run(7);
        Check.chip(x, 0, 1, "to 1;cut 1");
        x.run(7);
        c.looks(x, 59, TAKEN, 1, 0, 13);
        c.due("nothing was done", x.camp(1, 0), 50);
    }

    @Sentence("if it is K itself, it does the rest of its ACTS yet, and is not LATE")
    private static void voidOfOneself(Check c) {
        FlumeOrders x = Check.forestOf("reach 0 1;camp 1 50;camp 1 50");
        Check.chip(x, 0, 1, "all;cut 1;void 0;cut 2;void 0");
        x.run(13);
        c.due("trees of 1", x.camp(1, 0), 47);
        c.due("trees of 2", x.camp(2, 0), 47);
        c.due("late", x.count(7), 0);
    }

    @Sentence("if it has done its ACTS there already (without ACTS they are done as it comes there): LATE is 1 more.")
    private static void late(Check c) {
        FlumeOrders x = Check.forestOf("reach 0 1;camp 1 50;camp 1 50");
        Check.chip(x, 0, 1, "all;cut 1");
        Check.chip(x, 0, 1, "to 1;void 0;void 2");
        Check.chip(x, 0, 1, "to 1;cut 5");
        Check.chip(x, 0, 1, "to 2;void 1");
        x.run(7);
        c.due("of one minute, by numbers: 0 was first, 2 was not", x.camp(1, 3), 1);
        c.due("trees", x.camp(1, 0), 49);
        x.run(6);
        c.due("1 has done nothing at 2", x.camp(2, 3), 0);
        c.due("nothing is late at 1 by what is done at 2", x.camp(1, 3), 1);
        c.due("0 has done at 2 what it does", x.camp(2, 0), 49);
        Check.chip(x, 0, 1, "to 1;void 0");
        x.run(7);
        c.due("once more", x.camp(1, 3), 2);
        c.due("late of all", x.count(7), 2);
    }

    @Sentence("if it has done its ACTS there already (without ACTS they are done as it comes there): LATE is 1 more.")
    private static void lateByEachCamp(Check c) {
        FlumeOrders x = Check.forestOf("reach 0 1;camp 1 50;camp 1 50");
        Check.chip(x, 0, 1, "all;cut 1");
        Check.chip(x, 0, 2, "to 1;cut 1");
        Check.chip(x, 0, 3, "to 2;void 0;void 1;void 2");
        Check.chip(x, 0, 3, "to 1;void 1;void 3;void 4");
        x.run(16);
        c.due("1 has come to camp 1, but neither 4 nor 3 itself", x.camp(1, 3), 1);
        x.run(1);
        c.due("0 has come to camp 2, 1 has not", x.camp(2, 3), 1);
        c.due("late of all", x.count(7), 2);
    }

    @Sentence("if it has done its ACTS there already (without ACTS they are done as it comes there): LATE is 1 more.")
    private static void lateWithoutActs(Check c) {
        FlumeOrders x = Check.forestOf("reach 0 1;camp 1 50");
        Check.chip(x, 0, 1, "to 1");
        Check.chip(x, 0, 2, "all");
        Check.chip(x, 0, 1, "to 1;void 0;void 1");
        x.run(7);
        c.due("0 has come, 1 has not", x.camp(1, 3), 1);
        FlumeOrders y = Check.forestOf("reach 0 1;camp 1 50");
        Check.chip(y, 0, 1, "all");
        Check.chip(y, 0, 2, "to 1;void 0");
        y.run(8);
        c.due("it has come there, and gone on", y.camp(1, 3), 1);
    }

    @Sentence("POLE at a REACH: all that STICKS there goes on.")
    private static void pole(Check c) {
        FlumeOrders x = Check.forestOf("reach 0 1 stick 50;camp 1 0;reach 1 1 stick 50");
        throwSome(x, 5, 1, "mill");
        Check.chip(x, 1, 1, "mill");
        c.due("nothing sticks yet", x.pole(0), 0);
        // 38 for chip 5 in reach 1; 58 13 15 51 27 for the others.
        x.run(1);
        c.due("pole(0)", x.pole(0), 3);
        c.due("pole(0) again", x.pole(0), 0);
        c.looks(x, 1, GOES, 0, 6, 0);
        c.looks(x, 5, STICKS, 1, 6, 0);
        c.due("pole(1)", x.pole(1), 1);
        c.looks(x, 5, GOES, 1, 6, 0);
    }
}
