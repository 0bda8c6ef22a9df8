/** The bounds that the promises themselves name, call by call. */
public final class CallBoundsTest {
    private static final int NONE = FlumeOrders.NONE;
    private static final int LEAST = Integer.MIN_VALUE;
    private static final int MOST = Integer.MAX_VALUE;

    public static void main(String[] args) throws Exception {
        Sentences.hold(CallBoundsTest.class);
    }

    @Sentence("An office and a mill.")
    private static void newObject(Check c) {
        FlumeOrders x = new FlumeOrders();
        int[] counts = {0, 0, 0, 0, 0, 5, 0, 0, 0, 0};
        for (int what = 0; what < counts.length; what++) {
            c.due("count(" + what + ")", x.count(what), counts[what]);
        }
        c.due("fault", x.fault(), NONE);
        c.due("out(0)", x.out(0), NONE);
        c.due("plan(NONE)", x.plan(NONE), 0);
        c.due("back", x.back(), false);
        c.due("the tape is empty", x.end(1), false);
        c.due("a chip of nothing", Check.answer(() -> x.chip(0, 1)), Check.ARGUMENT);
        c.due("the office leads to the mill", x.time(0, 1, 1, 5), 60);
        c.throwsDue("there is no camp", () -> x.camp(1, 0), Check.INDEX);
        c.throwsDue("there is no chip", () -> x.look(0, 0), Check.INDEX);
        c.due("later", x.later(2000, 0), 0);
    }

    @Sentence("Twenty bytes come behind the TAPE, of each number the highest first: how many it has;")
    private static void bytes(Check c) {
        FlumeOrders x = new FlumeOrders();
        // "water 7;frost 23 0;s", and behind it "eed 5", blanks, and a byte 160.
        c.due("twenty", x.feed(0x77617465, 0x7220373b, 0x66726f73, 0x74203233, 0x20303b73), 20);
        c.due("forty", x.feed(0x65656420, 0x35202020, 0x20202020, 0x20202020, 0x202020a0), 40);
        c.due("end(39)", x.end(39), true);
        c.due("a text", Check.answer(x::forest), 1);
        c.due("water", x.count(5), 7);
        x.feed(0x77617465, 0x7220373b, 0x66726f73, 0x74203233, 0x20303b73);
        x.feed(0x65656420, 0x35202020, 0x20202020, 0x20202020, 0x202020a0);
        c.due("with the byte 160", Check.answer(x::forest), Check.ARGUMENT);
        c.due("it is the last one", x.fault(), 39);
    }

    @Sentence("NONE, and none come, if it would have more than 400.")
    private static void mostBytes(Check c) {
        FlumeOrders x = new FlumeOrders();
        for (int i = 1; i <= 20; i++) {
            c.due("feed " + i, x.feed(0x20202020, 0x20202020, 0x20202020, 0x20202020, 0x20202020), 20 * i);
        }
        c.due("beyond 400", x.feed(1, 1, 1, 1, 1), NONE);
        c.due("none came", x.end(401), false);
        c.due("400 stay", x.end(400), true);
        c.due("end(381)", x.end(381), true);
        c.due("to 401", x.feed(1, 1, 1, 1, 1), NONE);
        c.due("none came", x.end(382), false);
        c.due("end(380)", x.end(380), true);
        c.due("to 400", x.feed(0x20202020, 0x20202020, 0x20202020, 0x20202020, 0x20202020), 400);
        c.due("all are blanks", Check.answer(x::forest), 1);
    }

    @Sentence("The TAPE has its first n bytes alone: true;")
    private static void firstBytes(Check c) {
        FlumeOrders x = new FlumeOrders();
        c.due("end(0) of none", x.end(0), true);
        Check.feed(x, "water 7;water 8");
        c.due("all of them", x.end(15), true);
        c.due("the first seven", x.end(7), true);
        c.due("no more are there", x.end(8), false);
        c.due("twenty come behind them", x.feed(0x20202020, 0x20202020, 0x20202020, 0x20202020, 0x20202020), 27);
        c.due("a text", Check.answer(x::forest), 1);
        c.due("water", x.count(5), 7);
        Check.feed(x, "water 8");
        c.due("end(0)", x.end(0), true);
        c.due("a text of nothing", Check.answer(x::forest), 2);
        c.due("water", x.count(5), 7);
    }

    @Sentence("The TAPE has its first n bytes alone: true;")
    private static void endOfAWord(Check c) {
        FlumeOrders x = new FlumeOrders();
        Check.feed(x, "water 59");
        x.end(7);
        c.due("the number ends with the tape", Check.answer(x::forest), 1);
        c.due("water", x.count(5), 5);
        Check.feed(x, "campfire");
        x.end(4);
        c.due("the word ends with the tape", Check.answer(x::forest), Check.ARGUMENT);
        c.due("more must come", x.fault(), 4);
        Check.feed(x, "water 8");
        x.end(6);
        c.due("the number is not there", Check.answer(x::forest), Check.ARGUMENT);
        c.due("more must come", x.fault(), 6);
        Check.feed(x, "mills");
        x.end(4);
        c.due("a chip", Check.answer(() -> x.chip(0, 1)), 0);
    }

    @Sentence("false, and nothing happens, if it has fewer, or n is below 0.")
    private static void fewerBytes(Check c) {
        FlumeOrders x = new FlumeOrders();
        c.due("end(1) of none", x.end(1), false);
        Check.feed(x, "water 7");
        for (int n : new int[] {8, 400, MOST, -1, LEAST}) {
            c.due("end(" + n + ")", x.end(n), false);
        }
        c.due("the seven stay", x.end(7), true);
        c.due("a text", Check.answer(x::forest), 1);
        c.due("water", x.count(5), 7);
    }

    @Sentence("Uses the TAPE up: a text of THE FOREST: how many there are.")
    private static void textsUseTheTapeUp(Check c) {
        FlumeOrders x = new FlumeOrders();
        c.due("the first", Check.forest(x, "water 7"), 1);
        c.due("the tape is empty", x.end(1), false);
        c.due("a second one, of nothing", Check.answer(x::forest), 2);
        c.due("a wrong one", Check.forest(x, "water 0"), Check.ARGUMENT);
        c.due("the tape is empty", x.end(1), false);
        c.due("texts", x.count(1), 2);
        c.due("a third one", Check.forest(x, "water 8"), 3);
    }

    @Sentence("IllegalArgumentException: it is wrong; UnsupportedOperationException: there are 10.")
    private static void textsBeyondTen(Check c) {
        FlumeOrders x = new FlumeOrders();
        for (int i = 1; i <= 9; i++) {
            Check.forest(x, "");
        }
        c.due("a wrong one", Check.forest(x, "water 0"), Check.ARGUMENT);
        c.due("the 10th", Check.forest(x, ""), 10);
        c.due("an 11th, of nothing", Check.forest(x, ""), Check.UNSUPPORTED);
        c.due("an 11th", Check.forest(x, "water 9"), Check.UNSUPPORTED);
        c.due("the tape is empty", x.end(1), false);
        c.due("an 11th that is wrong", Check.forest(x, "water 0"), Check.ARGUMENT);
        c.due("texts", x.count(1), 10);
        c.due("water", x.count(5), 5);
    }

    @Sentence("its number (of no STATION, or a WEIGHT that is none, the text is not read, fault() stays)")
    private static void textsThatAreNotRead(Check c) {
        FlumeOrders x = new FlumeOrders();
        c.forestFault(x, "water 0", 6);
        int[][] thrown = {{-1, 1}, {1, 1}, {2, 1}, {MOST, 1}, {LEAST, 1}, {0, 0}, {0, 10}, {0, -1}, {0, MOST}, {0, LEAST}, {1, 0}};
        for (int[] t : thrown) {
            for (String text : new String[] {"mill", "x", ""}) {
                boolean isStation = t[0] == 0;
                c.due("chip(" + t[0] + ", " + t[1] + ")", Check.chip(x, t[0], t[1], text), isStation ? Check.ARGUMENT : Check.INDEX);
                c.due("the fault stays", x.fault(), 6);
                c.due("the tape is used up", x.end(1), false);
            }
        }
        c.due("a chip", Check.chip(x, 0, 1, "mill"), 0);
        c.due("its text was read", x.fault(), NONE);
        c.due("the tape is used up", x.end(1), false);
    }

    @Sentence("IllegalArgumentException: the WEIGHT is none, or the text is wrong; UnsupportedOperationException: there are 60.")
    private static void chipsBeyondSixty(Check c) {
        FlumeOrders x = new FlumeOrders();
        for (int i = 0; i < 59; i++) {
            Check.chip(x, 0, 1, "mill");
        }
        c.due("a wrong one", Check.chip(x, 0, 1, "mill;"), Check.ARGUMENT);
        c.due("the 60th", Check.chip(x, 0, 9, "all;cut 1 if 1<2"), 59);
        c.due("a 61st", Check.chip(x, 0, 1, "mill;cut 2"), Check.UNSUPPORTED);
        c.due("the tape is used up", x.end(1), false);
        c.due("a 61st that is wrong", Check.chip(x, 0, 1, "mill;"), Check.ARGUMENT);
        c.due("a 61st without weight", Check.chip(x, 0, 0, "mill"), Check.ARGUMENT);
        c.due("a 61st at the mill", Check.chip(x, 1, 1, "mill"), Check.INDEX);
        c.due("chips", x.count(2), 60);
        c.due("weight of the 60th", x.look(59, 3), 9);
    }

    @Sentence("The first wrong byte of the latest text that was read; NONE without one, and ahead of any.")
    private static void latestFault(Check c) {
        FlumeOrders x = new FlumeOrders();
        c.due("ahead of any", x.fault(), NONE);
        Check.forest(x, "water 0");
        c.due("of a wrong text", x.fault(), 6);
        c.due("it stays", x.fault(), 6);
        Check.forest(x, "");
        c.due("of a right text", x.fault(), NONE);
        Check.chip(x, 0, 1, "to");
        c.due("of wrong notches", x.fault(), 2);
        Check.chip(x, 0, 1, "mill");
        c.due("of right notches", x.fault(), NONE);
        Check.fits(x, "x", 0);
        c.due("a row is no text", x.fault(), NONE);
        Check.chip(x, 0, 1, "?");
        c.due("at the first byte", x.fault(), 0);
        Check.chip(x, 0, 1, " ".repeat(399) + "?");
        c.due("at the last byte", x.fault(), 399);
        Check.forest(x, " ".repeat(394) + "water ");
        c.due("behind 400 bytes", x.fault(), 400);
    }

    @Sentence("So many MINUTES: how many CHIPS came OUT.")
    private static void cameOut(Check c) {
        FlumeOrders x = Check.forestOf("reach 0 1");
        c.due("of none", x.run(1), 0);
        for (int weight = 1; weight <= 4; weight++) {
            Check.chip(x, 0, weight, "mill");
        }
        c.due("run(6)", x.run(6), 0);
        c.due("run(1)", x.run(1), 1);
        c.due("run(2)", x.run(2), 2);
        c.due("run(2000)", x.run(2000), 1);
        c.due("run(2000)", x.run(2000), 0);
        c.due("out", x.count(3), 4);
    }

    @Sentence("IllegalArgumentException: not 1 to 2000.")
    private static void minutes(Check c) {
        FlumeOrders x = new FlumeOrders();
        for (int minutes : new int[] {0, -1, 2001, LEAST, MOST}) {
            c.throwsDue("run(" + minutes + ")", () -> x.run(minutes), Check.ARGUMENT);
        }
        c.due("clock", x.count(4), 0);
        c.due("run(1)", x.run(1), 0);
        c.due("run(2000)", x.run(2000), 0);
        c.due("clock", x.count(4), 2001);
    }

    @Sentence("POLE: how many it freed.")
    private static void freed(Check c) {
        FlumeOrders x = Check.forestOf("reach 0 1 stick 1;seed 0");
        c.due("of none", x.pole(0), 0);
        Check.chip(x, 0, 1, "mill");
        c.due("of one that waits", x.pole(0), 0);
        x.run(1);
        c.due("of one that sticks", x.pole(0), 1);
        c.due("of one that goes", x.pole(0), 0);
        x.run(6);
        c.due("of one that is out", x.pole(0), 0);
        FlumeOrders y = Check.forestOf("reach 0 1 stick 99;seed 0");
        for (int i = 0; i < 60; i++) {
            Check.chip(y, 0, 1, "mill");
        }
        y.run(1);
        int stuck = y.later(0, 2);
        c.due("of as many as stick", y.pole(0), stuck);
        c.due("none sticks any more", y.later(0, 2), 0);
    }

    @Sentence("WATER: what it was. IllegalArgumentException: not 1 to 9.")
    private static void water(Check c) {
        FlumeOrders x = new FlumeOrders();
        c.due("water(1)", Check.answer(() -> x.water(1)), 5);
        c.due("water(9)", Check.answer(() -> x.water(9)), 1);
        for (int n : new int[] {0, -1, 10, LEAST, MOST}) {
            c.throwsDue("water(" + n + ")", () -> x.water(n), Check.ARGUMENT);
        }
        c.due("it is 9 yet", x.water(9), 9);
    }

    @Sentence("what 0 0 it waits, 1 it goes, 2 it STICKS, 3 it is TAKEN, 4 OUT, 1 the STATION (or REACH) where it is")
    private static void statesAndPlaces(Check c) {
        FlumeOrders x = Check.forestOf("reach 0 1;camp 1 9;reach 1 1 stick 39 bend 2");
        Check.chip(x, 1, 1, "mill");
        Check.chip(x, 1, 1, "mill");
        Check.chip(x, 1, 1, "mill");
        Check.chip(x, 0, 1, "to 1");
        // From seed 1 on the draws are 38 58 13.
        x.run(6);
        int[][] due = {{2, 1}, {1, 1}, {0, 1}, {1, 0}};
        for (int chip = 0; chip < due.length; chip++) {
            c.due("state of " + chip, x.look(chip, 0), due[chip][0]);
            c.due("place of " + chip, x.look(chip, 1), due[chip][1]);
        }
        x.run(1);
        c.due("1 is out", x.look(1, 0), 4);
        c.due("at the mill", x.look(1, 1), 2);
        c.due("3 is taken", x.look(3, 0), 3);
        c.due("at camp 1", x.look(3, 1), 1);
    }

    @Sentence("2 minutes to go in it (0 unless it goes or STICKS)")
    private static void minutesToGo(Check c) {
        FlumeOrders x = Check.forestOf("reach 0 1;camp 1 9;reach 1 1 stick 39 bend 2");
        for (int i = 0; i < 3; i++) {
            Check.chip(x, 1, 1, "mill");
        }
        Check.chip(x, 0, 1, "to 1");
        c.due("it waits", x.look(0, 2), 0);
        x.run(6);
        c.due("it sticks", x.look(0, 2), 6);
        c.due("it goes", x.look(1, 2), 1);
        c.due("it waits at a bend", x.look(2, 2), 0);
        x.run(1);
        c.due("it is out", x.look(1, 2), 0);
        c.due("it is taken", x.look(3, 2), 0);
    }

    @Sentence("4 the minute (CLOCK at its begin; of a THROWN one CLOCK then) in which it came where it is")
    private static void whenItCame(Check c) {
        FlumeOrders x = Check.forestOf("reach 0 1 bend 1;camp 1 9");
        x.run(10);
        Check.chip(x, 0, 1, "all");
        Check.chip(x, 0, 1, "to 1");
        int[] minutes = {0, 3, 4, 5, 1, 100};
        // One comes at 10, 16 and 22; the other waits at the bend till 16, and comes at 22.
        int[][] due = {{10, 10}, {10, 10}, {16, 16}, {16, 16}, {22, 22}, {22, 22}};
        int[][] places = {{0, 0}, {0, 0}, {1, 0}, {1, 0}, {2, 1}, {2, 1}};
        for (int i = 0; i < minutes.length; i++) {
            Check.run(x, minutes[i]);
            for (int chip = 0; chip <= 1; chip++) {
                c.due("place of " + chip + " at " + x.count(4), x.look(chip, 1), places[i][chip]);
                c.due(chip + " came there", x.look(chip, 4), due[i][chip]);
            }
        }
    }

    @Sentence("5 its NUMBER. NoSuchElementException: another what.")
    private static void anotherWhatOfAChip(Check c) {
        FlumeOrders x = new FlumeOrders();
        Check.chip(x, 0, 7, "mill");
        c.due("weight", x.look(0, 3), 7);
        c.due("number", x.look(0, 5), NONE);
        for (int what : new int[] {-1, 6, LEAST, MOST}) {
            c.throwsDue("look(0, " + what + ")", () -> x.look(0, what), Check.NO_ELEMENT);
        }
    }

    @Sentence("Of a CAMP what 0 TREES, 1 LOGS, 2 SENT, 3 LATE. NoSuchElementException: another what.")
    private static void anotherWhatOfACamp(Check c) {
        FlumeOrders x = Check.forestOf("reach 0 1;camp 1 9");
        Check.chip(x, 0, 1, "to 1;cut 6;send 4");
        Check.chip(x, 0, 1, "to 1;void 0");
        x.run(7);
        int[] due = {3, 2, 4, 1};
        for (int what = 0; what < due.length; what++) {
            c.due("camp(1, " + what + ")", x.camp(1, what), due[what]);
        }
        for (int what : new int[] {-1, 4, LEAST, MOST}) {
            c.throwsDue("camp(1, " + what + ")", () -> x.camp(1, what), Check.NO_ELEMENT);
        }
    }

    @Sentence("Of a REACH what 0 LENGTH, 1 STICK, 2 BEND, 3 CHIPS in it. NoSuchElementException: another what.")
    private static void anotherWhatOfAReach(Check c) {
        FlumeOrders x = Check.forestOf("reach 0 7 stick 39 bend 2");
        for (int i = 0; i < 3; i++) {
            Check.chip(x, 0, 1, "mill");
        }
        c.due("none in it", x.reach(0, 3), 0);
        x.run(1);
        // One of them sticks, one goes, one waits.
        int[] due = {7, 39, 2, 2};
        for (int what = 0; what < due.length; what++) {
            c.due("reach(0, " + what + ")", x.reach(0, what), due[what]);
        }
        for (int what : new int[] {-1, 4, LEAST, MOST}) {
            c.throwsDue("reach(0, " + what + ")", () -> x.reach(0, what), Check.NO_ELEMENT);
        }
    }

    @Sentence("The k-th CHIP that came OUT (from 0 on); NONE behind.")
    private static void outs(Check c) {
        FlumeOrders x = Check.forestOf("reach 0 1");
        c.due("none yet", x.out(0), NONE);
        Check.chip(x, 0, 9, "mill");
        Check.chip(x, 0, 1, "mill");
        x.run(20);
        int[] due = {1, 0, NONE};
        for (int k = 0; k < due.length; k++) {
            c.due("out(" + k + ")", x.out(k), due[k]);
        }
        c.due("out(MOST)", x.out(MOST), NONE);
        c.due("out(-1)", x.out(-1), NONE);
        c.due("out(LEAST)", x.out(LEAST), NONE);
        FlumeOrders y = Check.forestOf("reach 0 1");
        for (int i = 0; i < 60; i++) {
            Check.chip(y, 0, 1, "mill");
        }
        c.due("all of them", y.run(7), 60);
        c.due("the last one", y.out(59), 59);
        c.due("behind the last one", y.out(60), NONE);
    }

    @Sentence("TIME from a STATION to another one (not ahead of it). IllegalArgumentException: it is ahead, or WEIGHT or WATER are"
        + " none.")
    private static void times(Check c) {
        FlumeOrders x = Check.forestOf("reach 0 20;camp 20 0");
        c.due("the least", Check.answer(() -> x.time(0, 1, 1, 9)), 40);
        c.due("the most", Check.answer(() -> x.time(0, 2, 9, 1)), 720);
        for (int station = 0; station <= 2; station++) {
            c.due("of no way", x.time(station, station, 9, 1), 0);
        }
        c.throwsDue("ahead", () -> x.time(2, 1, 1, 1), Check.ARGUMENT);
        for (int n : new int[] {0, 10, -1, LEAST, MOST}) {
            c.throwsDue("weight " + n, () -> x.time(0, 1, n, 1), Check.ARGUMENT);
            c.throwsDue("water " + n, () -> x.time(0, 1, 1, n), Check.ARGUMENT);
            c.throwsDue("water " + n + ", of no way", () -> x.time(1, 1, 1, n), Check.ARGUMENT);
        }
    }

    @Sentence("IllegalArgumentException: WEIGHTS or WATER are none, or the least is above the greatest.")
    private static void waits(Check c) {
        FlumeOrders x = Check.forestOf("camp 1 0");
        for (int n : new int[] {0, 10, -1, LEAST, MOST}) {
            c.throwsDue("first " + n, () -> x.waits(1, n, 1, 1, 1), Check.ARGUMENT);
            c.throwsDue("second " + n, () -> x.waits(1, 1, n, 1, 1), Check.ARGUMENT);
            c.throwsDue("least " + n, () -> x.waits(1, 1, 1, n, 9), Check.ARGUMENT);
            c.throwsDue("greatest " + n, () -> x.waits(1, 1, 1, 1, n), Check.ARGUMENT);
        }
        c.throwsDue("least above the greatest", () -> x.waits(1, 1, 1, 6, 5), Check.ARGUMENT);
        c.due("least is the greatest", Check.answer(() -> x.waits(1, 1, 1, 5, 5)), 1);
        c.due("all waters", Check.answer(() -> x.waits(2, 9, 9, 1, 9)), 1);
    }

    @Sentence("An ORDER: its number. IllegalArgumentException: the WEIGHT is none; UnsupportedOperationException: there are 12.")
    private static void ordersBeyondTwelve(Check c) {
        FlumeOrders x = Check.forestOf("camp 1 0");
        for (int weight : new int[] {0, 10, -1, LEAST, MOST}) {
            c.throwsDue("weight " + weight, () -> x.order(1, weight), Check.ARGUMENT);
        }
        for (int i = 0; i < 12; i++) {
            int weight = i == 0 ? 9 : 1;
            c.due("order " + i, Check.answer(() -> x.order(1, weight)), i);
        }
        c.throwsDue("a 13th", () -> x.order(1, 1), Check.UNSUPPORTED);
        c.throwsDue("a 13th without weight", () -> x.order(1, 0), Check.ARGUMENT);
        c.due("orders", x.count(6), 12);
    }

    @Sentence("An AHEAD pair (the latest of the same two holds; minutes 0: none any more): what it was (0 without).")
    private static void latestPair(Check c) {
        FlumeOrders x = Check.forestOf("reach 0 1;camp 1 0");
        x.order(1, 1);
        x.order(1, 1);
        c.due("the first", x.ahead(0, 1, 1), 0);
        c.due("the latest", x.ahead(0, 1, 999), 1);
        c.due("it holds", x.plan(1), 999);
        c.due("the other way round it is another pair", x.ahead(1, 0, 0), 0);
        c.due("none any more", x.ahead(0, 1, 0), 999);
        c.due("nothing must be ahead", x.plan(1), 0);
        c.due("none yet", x.ahead(0, 1, 0), 0);
    }

    @Sentence("IllegalArgumentException: both are one, or minutes are not 0 to 999.")
    private static void pairsThatCannotBe(Check c) {
        FlumeOrders x = Check.forestOf("camp 1 0");
        x.order(1, 1);
        x.order(1, 1);
        c.throwsDue("both are 0", () -> x.ahead(0, 0, 1), Check.ARGUMENT);
        c.throwsDue("both are 1", () -> x.ahead(1, 1, 0), Check.ARGUMENT);
        for (int minutes : new int[] {-1, 1000, LEAST, MOST}) {
            c.throwsDue("minutes " + minutes, () -> x.ahead(0, 1, minutes), Check.ARGUMENT);
        }
        c.due("999", Check.answer(() -> x.ahead(0, 1, 999)), 0);
        c.due("0", Check.answer(() -> x.ahead(0, 1, 0)), 999);
    }

    @Sentence("PLAN: SPAN (order NONE; 0 without ORDERS), or the minute for an ORDER; NONE.")
    private static void plan(Check c) {
        FlumeOrders x = Check.forestOf("reach 0 1;camp 1 0");
        c.due("without orders", x.plan(NONE), 0);
        c.throwsDue("plan(0)", () -> x.plan(0), Check.INDEX);
        x.order(1, 1);
        x.order(1, 1);
        x.ahead(0, 1, 7);
        c.due("span", x.plan(NONE), 13);
        c.due("plan(0)", x.plan(0), 0);
        c.due("plan(1)", x.plan(1), 7);
        x.ahead(1, 0, 7);
        for (int order = NONE; order < 2; order++) {
            c.due("they cannot: plan(" + order + ")", x.plan(order), NONE);
        }
        for (int order : new int[] {2, -2, LEAST, MOST}) {
            c.throwsDue("plan(" + order + ")", () -> x.plan(order), Check.INDEX);
        }
    }

    @Sentence("CHANCE. IllegalArgumentException: the second is ahead of the first.")
    private static void chances(Check c) {
        FlumeOrders x = Check.forestOf("camp 1 0");
        c.throwsDue("1 to 0", () -> x.chance(1, 0), Check.ARGUMENT);
        c.throwsDue("2 to 0", () -> x.chance(2, 0), Check.ARGUMENT);
        c.due("1 to 1", Check.answer(() -> x.chance(1, 1)), 1000000000);
        c.due("0 to 2", Check.answer(() -> x.chance(0, 2)), 1000000000);
    }

    @Sentence("REPEATS; NONE. IllegalArgumentException: likewise, or millionths are not 0 to 1000000.")
    private static void repeats(Check c) {
        FlumeOrders x = Check.forestOf("reach 0 1 stick 99;camp 1 0");
        c.throwsDue("1 to 0", () -> x.repeats(1, 0, 5), Check.ARGUMENT);
        for (int millionths : new int[] {-1, 1000001, LEAST, MOST}) {
            c.throwsDue("millionths " + millionths, () -> x.repeats(0, 1, millionths), Check.ARGUMENT);
        }
        c.due("0", Check.answer(() -> x.repeats(0, 1, 0)), NONE);
        c.due("1000000", Check.answer(() -> x.repeats(0, 1, 1000000)), 0);
        c.due("999999", Check.answer(() -> x.repeats(0, 2, 999999)), 1);
    }

    @Sentence("FITS (of each CHIP a byte: 48 and its WEIGHT): how many (k NONE), or the k-th WEIGHT of the first (NONE without).")
    private static void fits(Check c) {
        FlumeOrders x = new FlumeOrders();
        c.due("how many", Check.fits(x, "12", NONE), 2);
        int[] due = {1, 2, NONE};
        for (int k = 0; k < due.length; k++) {
            c.due("the first, " + k, Check.fits(x, "12", k), due[k]);
        }
        c.due("the first, far behind", Check.fits(x, "12", MOST), NONE);
        c.due("none", Check.fits(x, "21", NONE), 0);
        c.due("the first of none", Check.fits(x, "21", 0), NONE);
        c.due("the tape is used up", x.end(1), false);
    }

    @Sentence("IllegalArgumentException: it is no such row, or k is below NONE.")
    private static void noRow(Check c) {
        FlumeOrders x = new FlumeOrders();
        for (String row : new String[] {"", "0", ":", "10", "1234567", " 1", "1 ", "1;2", "a", "1\u00ff", "12/", "\u0001\u0002"}) {
            for (int k = NONE; k <= 1; k++) {
                c.due("row '" + row + "'", Check.fits(x, row, k), Check.ARGUMENT);
                c.due("the tape is used up", x.end(1), false);
            }
        }
        for (int k : new int[] {-2, LEAST}) {
            c.due("k " + k, Check.fits(x, "12", k), Check.ARGUMENT);
            c.due("the tape is used up", x.end(1), false);
        }
        c.due("weights 1 and 9", Check.fits(x, "19", 1), 9);
    }

    @Sentence("TEST: 16 times the STATION and the later one; NONE. (Bits of no REACH count for nothing.)")
    private static void bitsOfNoReach(Check c) {
        FlumeOrders x = Check.forestOf("camp 1 0");
        c.due("both", x.test(3), 1);
        c.due("all bits", x.test(-1), 1);
        c.due("one, and bits of none", x.test(-2), NONE);
        c.due("bits of none", x.test(-4), NONE);
        c.due("bit 31", x.test(LEAST), NONE);
        FlumeOrders y = Check.forestOf(Check.camps(11));
        c.due("all bits", y.test(-1), 6);
        c.due("reach 11, and bits of none", y.test(-1 << 11), NONE);
        c.due("reaches 10 and 11", y.test(-1 << 10), 11);
    }

    @Sentence("IllegalArgumentException: MINUTES are none; NoSuchElementException: another what.")
    private static void later(Check c) {
        FlumeOrders x = new FlumeOrders();
        for (int minutes : new int[] {-1, 2001, LEAST, MOST}) {
            c.throwsDue("later(" + minutes + ", 0)", () -> x.later(minutes, 0), Check.ARGUMENT);
        }
        for (int what : new int[] {-1, 6, LEAST, MOST}) {
            c.throwsDue("later(0, " + what + ")", () -> x.later(0, what), Check.NO_ELEMENT);
        }
        for (int what = 0; what <= 5; what++) {
            int w = what;
            c.due("later(0, " + what + ")", Check.answer(() -> x.later(0, w)), 0);
            c.due("later(2000, " + what + ")", Check.answer(() -> x.later(2000, w)), 0);
        }
        c.due("clock", x.count(4), 0);
    }

    @Sentence("LOOKED AHEAD: what 0 CHIPS that are OUT then, 1 TAKEN, 2 what STICKS, 3 LOGS that are SENT by all, 4 CHIPS that wait,"
        + " 5 what goes.")
    private static void whatIsLater(Check c) {
        FlumeOrders x = Check.forestOf("reach 0 1;camp 1 5;reach 1 1 stick 40 bend 3");
        // From seed 1 on the draws are 38 58 13 15.
        Check.chip(x, 0, 1, "to 1;cut 3;send 2;answer");
        Check.chip(x, 0, 1, "mill");
        Check.chip(x, 0, 2, "mill");
        Check.chip(x, 0, 3, "mill");
        int[] minutes = {0, 1, 7, 8, 9, 12, 13, 2000};
        int[][] due = {{0, 0, 0, 0, 4, 0}, {0, 0, 0, 0, 0, 4}, {0, 1, 1, 2, 0, 3}, {0, 1, 2, 2, 0, 2}, {0, 1, 2, 2, 1, 1},
            {0, 1, 2, 2, 1, 1}, {1, 1, 3, 2, 0, 0}, {1, 1, 3, 2, 0, 0}};
        for (int i = 0; i < minutes.length; i++) {
            for (int what = 0; what <= 5; what++) {
                c.due("later(" + minutes[i] + ", " + what + ")", x.later(minutes[i], what), due[i][what]);
            }
        }
    }

    @Sentence("One goes back to THE IMAGE: true; false, and nothing happens, if none was kept.")
    private static void backToNone(Check c) {
        FlumeOrders x = Check.forestOf("reach 0 1;camp 1 9");
        Check.chip(x, 0, 1, "to 1");
        x.run(3);
        c.due("none was kept", x.back(), false);
        c.due("clock", x.count(4), 3);
        c.due("chips", x.count(2), 1);
        c.due("camps", x.count(0), 1);
        x.image();
        c.due("kept", x.back(), true);
        c.due("clock", x.count(4), 3);
        FlumeOrders y = new FlumeOrders();
        y.image();
        Check.forest(y, "camp 1 1");
        c.due("of a new object", y.back(), true);
        c.due("camps", y.count(0), 0);
    }

    @Sentence("9 1 if there is FROST now. NONE for another what.")
    private static void counts(Check c) {
        FlumeOrders x = Check.forestOf("reach 0 1;camp 1 9;camp 1 9;frost 1 2;water 7");
        x.order(1, 1);
        Check.chip(x, 0, 1, "all;cut 3;send 2");
        Check.chip(x, 0, 2, "all;void 0");
        Check.chip(x, 0, 3, "to 1");
        x.run(59);
        int[] due = {2, 1, 3, 2, 59, 7, 1, 2, 4, 0};
        for (int what = 0; what < due.length; what++) {
            c.due("count(" + what + ")", x.count(what), due[what]);
        }
        x.run(1);
        c.due("frost now", x.count(9), 1);
        x.run(60);
        c.due("no frost any more", x.count(9), 0);
        for (int what : new int[] {-1, 10, LEAST, MOST}) {
            c.due("count(" + what + ")", x.count(what), NONE);
        }
    }
}
