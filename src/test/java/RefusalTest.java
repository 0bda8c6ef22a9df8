import java.util.Arrays;
import java.util.function.ToIntFunction;

/** Which of several exceptions is thrown, and what a refused call changes and what it leaves. */
public final class RefusalTest {
    private static final int NONE = FlumeOrders.NONE;
    private static final int LEAST = Integer.MIN_VALUE;
    private static final int MOST = Integer.MAX_VALUE;
    private static final int[] FAR = {LEAST, LEAST + 1, -1000000, -2, 13, 16, 61, 1 << 16, MOST - 1, MOST};

    public static void main(String[] args) throws Exception {
        Sentences.hold(RefusalTest.class);
    }

    @Sentence("Of several exceptions the one told first is thrown;")
    private static void firstOfForest(Check c) {
        FlumeOrders x = new FlumeOrders();
        for (int i = 0; i < 10; i++) {
            Check.forest(x, "");
        }
        c.due("wrong, and beyond 10", Check.forest(x, "saw"), Check.ARGUMENT);
        c.due("beyond 10 alone", Check.forest(x, ""), Check.UNSUPPORTED);
    }

    @Sentence("Of several exceptions the one told first is thrown;")
    private static void firstOfChip(Check c) {
        FlumeOrders x = new FlumeOrders();
        c.due("no station, no weight, wrong", Check.chip(x, 1, 0, "saw"), Check.INDEX);
        c.due("no station, wrong", Check.chip(x, -1, 1, "saw"), Check.INDEX);
        c.due("no weight, wrong", Check.chip(x, 0, 10, "saw"), Check.ARGUMENT);
        for (int i = 0; i < 60; i++) {
            Check.chip(x, 0, 1, "mill");
        }
        c.due("no station, no weight, wrong, beyond 60", Check.chip(x, 1, 0, "saw"), Check.INDEX);
        c.due("no station, beyond 60", Check.chip(x, 1, 1, "mill"), Check.INDEX);
        c.due("no weight, beyond 60", Check.chip(x, 0, 0, "mill"), Check.ARGUMENT);
        c.due("wrong, beyond 60", Check.chip(x, 0, 1, "saw"), Check.ARGUMENT);
        c.due("beyond 60 alone", Check.chip(x, 0, 1, "mill"), Check.UNSUPPORTED);
    }

    @Sentence("Of several exceptions the one told first is thrown;")
    private static void firstOfLookCampReach(Check c) {
        FlumeOrders x = Check.forestOf("camp 1 0");
        c.throwsDue("no chip, no what", () -> x.look(0, 6), Check.INDEX);
        c.throwsDue("no chip, no what", () -> x.look(-1, -1), Check.INDEX);
        c.throwsDue("no camp, no what", () -> x.camp(0, 4), Check.INDEX);
        c.throwsDue("no camp, no what", () -> x.camp(2, -1), Check.INDEX);
        c.throwsDue("no reach, no what", () -> x.reach(-1, 4), Check.INDEX);
        c.throwsDue("no reach, no what", () -> x.reach(2, -1), Check.INDEX);
    }

    @Sentence("Of several exceptions the one told first is thrown;")
    private static void firstOfTime(Check c) {
        FlumeOrders x = Check.forestOf("camp 1 0");
        c.throwsDue("no station, ahead", () -> x.time(3, 0, 1, 1), Check.INDEX);
        c.throwsDue("no other station, ahead", () -> x.time(0, -1, 1, 1), Check.INDEX);
        c.throwsDue("no station, no weight", () -> x.time(-1, 0, 0, 1), Check.INDEX);
        c.throwsDue("no other station, no water", () -> x.time(0, 3, 1, 0), Check.INDEX);
        c.throwsDue("neither station", () -> x.time(3, 3, 0, 0), Check.INDEX);
    }

    @Sentence("Of several exceptions the one told first is thrown;")
    private static void firstOfWaits(Check c) {
        FlumeOrders x = Check.forestOf("camp 1 0");
        c.throwsDue("no station, no weight", () -> x.waits(3, 0, 1, 1, 1), Check.INDEX);
        c.throwsDue("no station, no second weight", () -> x.waits(-1, 1, 10, 1, 1), Check.INDEX);
        c.throwsDue("no station, no water", () -> x.waits(3, 1, 1, 0, 10), Check.INDEX);
        c.throwsDue("no station, the least above", () -> x.waits(3, 1, 1, 2, 1), Check.INDEX);
    }

    @Sentence("Of several exceptions the one told first is thrown;")
    private static void firstOfOrder(Check c) {
        FlumeOrders x = Check.forestOf("camp 1 0");
        c.throwsDue("no camp, no weight", () -> x.order(0, 0), Check.INDEX);
        for (int i = 0; i < 12; i++) {
            x.order(1, 1);
        }
        c.throwsDue("no camp, no weight, beyond 12", () -> x.order(2, 10), Check.INDEX);
        c.throwsDue("no camp, beyond 12", () -> x.order(2, 1), Check.INDEX);
        c.throwsDue("no weight, beyond 12", () -> x.order(1, 0), Check.ARGUMENT);
        c.throwsDue("beyond 12 alone", () -> x.order(1, 1), Check.UNSUPPORTED);
    }

    @Sentence("Of several exceptions the one told first is thrown;")
    private static void firstOfAhead(Check c) {
        FlumeOrders x = Check.forestOf("camp 1 0");
        x.order(1, 1);
        c.throwsDue("both are one, of which there is none", () -> x.ahead(1, 1, 1), Check.INDEX);
        c.throwsDue("both are one below 0", () -> x.ahead(-1, -1, 1), Check.INDEX);
        c.throwsDue("no second, no minutes", () -> x.ahead(0, 1, -1), Check.INDEX);
        c.throwsDue("no first, no minutes", () -> x.ahead(1, 0, 1000), Check.INDEX);
    }

    @Sentence("Of several exceptions the one told first is thrown;")
    private static void firstOfChanceAndRepeats(Check c) {
        FlumeOrders x = Check.forestOf("camp 1 0");
        c.throwsDue("chance: no first, ahead", () -> x.chance(3, 0), Check.INDEX);
        c.throwsDue("chance: no second, ahead", () -> x.chance(0, -1), Check.INDEX);
        c.throwsDue("repeats: no first, ahead", () -> x.repeats(3, 0, 5), Check.INDEX);
        c.throwsDue("repeats: no second, ahead", () -> x.repeats(0, -1, 5), Check.INDEX);
        c.throwsDue("repeats: no first, no millionths", () -> x.repeats(-1, 0, -1), Check.INDEX);
        c.throwsDue("repeats: no second, no millionths", () -> x.repeats(0, 3, 1000001), Check.INDEX);
    }

    @Sentence("Of several exceptions the one told first is thrown;")
    private static void firstOfLater(Check c) {
        FlumeOrders x = new FlumeOrders();
        c.throwsDue("no minutes, no what", () -> x.later(-1, 6), Check.ARGUMENT);
        c.throwsDue("no minutes, no what", () -> x.later(2001, -1), Check.ARGUMENT);
    }

    @Sentence("IndexOutOfBoundsException: there is no such STATION, REACH, CAMP, CHIP, ORDER.")
    private static void noSuchStation(Check c) {
        FlumeOrders x = Check.forestOf("camp 1 0");
        c.due("the mill is the last one", Check.answer(() -> x.time(2, 2, 1, 1)), 0);
        for (int s : new int[] {-1, 3, LEAST, MOST}) {
            c.throwsDue("time from " + s, () -> x.time(s, 2, 1, 1), Check.INDEX);
            c.throwsDue("time to " + s, () -> x.time(0, s, 1, 1), Check.INDEX);
            c.throwsDue("waits to " + s, () -> x.waits(s, 1, 1, 1, 1), Check.INDEX);
            c.throwsDue("chance from " + s, () -> x.chance(s, 2), Check.INDEX);
            c.throwsDue("chance to " + s, () -> x.chance(0, s), Check.INDEX);
            c.throwsDue("repeats from " + s, () -> x.repeats(s, 2, 5), Check.INDEX);
            c.throwsDue("repeats to " + s, () -> x.repeats(0, s, 5), Check.INDEX);
            c.due("chip at " + s, Check.chip(x, s, 1, "mill"), Check.INDEX);
        }
        c.due("chip at the mill", Check.chip(x, 2, 1, "mill"), Check.INDEX);
        c.due("chip at camp 1", Check.chip(x, 1, 1, "mill"), 0);
    }

    @Sentence("IndexOutOfBoundsException: there is no such STATION, REACH, CAMP, CHIP, ORDER.")
    private static void noSuchReach(Check c) {
        FlumeOrders x = Check.forestOf("camp 1 0");
        for (int r : new int[] {-1, 2, 11, 12, LEAST, MOST}) {
            c.throwsDue("pole(" + r + ")", () -> x.pole(r), Check.INDEX);
            c.throwsDue("reach(" + r + ", 0)", () -> x.reach(r, 0), Check.INDEX);
        }
        c.due("pole(1)", Check.answer(() -> x.pole(1)), 0);
        c.due("reach(1, 0)", Check.answer(() -> x.reach(1, 0)), 1);
        c.due("pole(0)", Check.answer(() -> x.pole(0)), 0);
        c.due("reach(0, 0)", Check.answer(() -> x.reach(0, 0)), 10);
    }

    @Sentence("IndexOutOfBoundsException: there is no such STATION, REACH, CAMP, CHIP, ORDER.")
    private static void noSuchCamp(Check c) {
        FlumeOrders x = Check.forestOf("camp 1 4;camp 1 6");
        for (int camp : new int[] {-1, 0, 3, 11, 12, LEAST, MOST}) {
            c.throwsDue("camp(" + camp + ", 0)", () -> x.camp(camp, 0), Check.INDEX);
            c.throwsDue("order(" + camp + ", 1)", () -> x.order(camp, 1), Check.INDEX);
        }
        c.due("camp(1, 0)", Check.answer(() -> x.camp(1, 0)), 4);
        c.due("camp(2, 0)", Check.answer(() -> x.camp(2, 0)), 6);
        c.due("order(1, 1)", Check.answer(() -> x.order(1, 1)), 0);
        c.due("order(2, 1)", Check.answer(() -> x.order(2, 1)), 1);
    }

    @Sentence("IndexOutOfBoundsException: there is no such STATION, REACH, CAMP, CHIP, ORDER.")
    private static void noSuchChip(Check c) {
        FlumeOrders x = new FlumeOrders();
        c.throwsDue("look(0, 0) without chips", () -> x.look(0, 0), Check.INDEX);
        Check.chip(x, 0, 3, "mill");
        Check.chip(x, 0, 4, "mill");
        for (int chip : new int[] {-1, 2, 59, 60, LEAST, MOST}) {
            c.throwsDue("look(" + chip + ", 0)", () -> x.look(chip, 0), Check.INDEX);
        }
        c.due("look(0, 3)", Check.answer(() -> x.look(0, 3)), 3);
        c.due("look(1, 3)", Check.answer(() -> x.look(1, 3)), 4);
    }

    @Sentence("IndexOutOfBoundsException: there is no such STATION, REACH, CAMP, CHIP, ORDER.")
    private static void noSuchOrder(Check c) {
        FlumeOrders x = Check.forestOf("camp 1 0");
        c.throwsDue("plan(0) without orders", () -> x.plan(0), Check.INDEX);
        c.throwsDue("ahead(0, 1, 1) without orders", () -> x.ahead(0, 1, 1), Check.INDEX);
        x.order(1, 1);
        x.order(1, 1);
        for (int order : new int[] {-2, 2, 11, 12, LEAST, MOST}) {
            c.throwsDue("plan(" + order + ")", () -> x.plan(order), Check.INDEX);
            c.throwsDue("ahead(" + order + ", 0, 1)", () -> x.ahead(order, 0, 1), Check.INDEX);
            c.throwsDue("ahead(0, " + order + ", 1)", () -> x.ahead(0, order, 1), Check.INDEX);
        }
        c.throwsDue("ahead(-1, 0, 1)", () -> x.ahead(-1, 0, 1), Check.INDEX);
        c.throwsDue("ahead(0, -1, 1)", () -> x.ahead(0, -1, 1), Check.INDEX);
        c.due("ahead(1, 0, 1)", Check.answer(() -> x.ahead(1, 0, 1)), 0);
        c.due("plan(1)", Check.answer(() -> x.plan(1)), 0);
    }

    // ---- what a refused call leaves

    private static final String TAPE = "water 3";
    private static final int FAULT = 6;

    /** Two camps, chips of every state, orders, an image, a fault, and a text on the tape. */
    private static FlumeOrders inTheMidst() {
        FlumeOrders x = Check.forestOf("reach 0 1 stick 20;camp 1 30;reach 1 1 stick 15 bend 1;camp 2 9;frost 2 3;seed 1");
        Check.chip(x, 0, 1, "to 1;cut 3;send 2;answer;void 4");
        Check.chip(x, 0, 2, "all;cut 1;void 0");
        Check.chip(x, 2, 1, "mill");
        x.order(1, 2);
        x.order(2, 3);
        x.ahead(0, 1, 20);
        x.run(9);
        x.image();
        Check.chip(x, 0, 1, "all;cut 2;send 1");
        x.run(8);
        Check.chip(x, 1, 9, "mill");
        Check.chip(x, 2, 9, "mill");
        x.run(3);
        Check.forest(x, "water 0");
        Check.feed(x, TAPE);
        return x;
    }

    /** All that can be seen of an object; of many chips some. */
    private static int[] seen(FlumeOrders x) {
        int[] seen = new int[400];
        int n = 0;
        for (int what = 0; what <= 9; what++) {
            seen[n++] = x.count(what);
        }
        int step = x.count(2) > 12 ? 12 : 1;
        for (int chip = 0; chip < x.count(2); chip += step) {
            for (int what = 0; what <= 5; what++) {
                seen[n++] = x.look(chip, what);
            }
        }
        for (int r = 0; r <= x.count(0); r++) {
            for (int what = 0; what <= 3; what++) {
                seen[n++] = x.reach(r, what);
                seen[n++] = r == 0 ? 0 : x.camp(r, what);
            }
        }
        for (int k = 0; k <= x.count(3); k += step) {
            seen[n++] = x.out(k);
        }
        for (int order = NONE; order < Math.min(x.count(6), 3); order++) {
            seen[n++] = x.plan(order);
        }
        for (int what = 0; what <= 5; what++) {
            seen[n++] = x.later(90, what);
        }
        return Arrays.copyOf(seen, n);
    }

    private static void alike(Check c, String when, FlumeOrders x, FlumeOrders y) {
        int[] got = seen(x);
        int[] due = seen(y);
        c.due(when + ": " + Arrays.toString(got) + " is not " + Arrays.toString(due), Arrays.equals(got, due), true);
    }

    /** One of two like objects is refused a call; they must be alike then, and stay so. */
    private static void changesNothing(Check c, String call, FlumeOrders x, FlumeOrders y, ToIntFunction<FlumeOrders> refused,
            int exception) {
        int fault = y.fault();
        c.due(call, Check.answer(() -> refused.applyAsInt(x)), exception);
        c.due("the fault after " + call, x.fault(), fault);
        c.due("the tape after " + call, x.end(TAPE.length() + 1), false);
        c.due("the tape after " + call, x.end(TAPE.length()), true);
        alike(c, "after " + call, x, y);
        c.due("the text on the tape after " + call, Check.answer(x::forest), Check.answer(y::forest));
        staysAlike(c, call, x, y);
    }

    private static void staysAlike(Check c, String call, FlumeOrders x, FlumeOrders y) {
        // What sticks is freed, so that others enter, and draw.
        c.due("poles after " + call, x.pole(0) + x.pole(1), y.pole(0) + y.pole(1));
        c.due("run after " + call, x.run(150), y.run(150));
        alike(c, "150 minutes after " + call, x, y);
        c.due("back after " + call, x.back(), y.back());
        alike(c, "back after " + call, x, y);
    }

    private static void changesNothing(Check c, String call, ToIntFunction<FlumeOrders> refused, int exception) {
        changesNothing(c, call, inTheMidst(), inTheMidst(), refused, exception);
    }

    /** Of a call that uses the tape up: it is empty then, and the fault is that of the text, or stays if none is read. */
    private static void changesTheTapeAlone(Check c, String call, FlumeOrders x, FlumeOrders y, String text,
            ToIntFunction<FlumeOrders> refused, int exception, int fault) {
        Check.feed(x, text);
        c.due(call, Check.answer(() -> refused.applyAsInt(x)), exception);
        c.due("the fault after " + call, x.fault(), fault);
        c.due("the tape after " + call, x.end(1), false);
        y.end(0);
        alike(c, "after " + call, x, y);
        staysAlike(c, call, x, y);
    }

    private static void changesTheTapeAlone(Check c, String call, String text, ToIntFunction<FlumeOrders> refused, int exception,
            int fault) {
        changesTheTapeAlone(c, call, inTheMidst(), inTheMidst(), text, refused, exception, fault);
    }

    @Sentence("a call that throws changes nothing but the TAPE")
    private static void midstIsOfEveryKind(Check c) {
        FlumeOrders x = inTheMidst();
        int states = 0;
        for (int chip = 0; chip < x.count(2); chip++) {
            states |= 1 << x.look(chip, 0);
        }
        c.due("one waits, goes, sticks, is taken, and is out", states, 31);
        c.due("late", x.count(7), 1);
        c.due("fault", x.fault(), FAULT);
    }

    @Sentence("a call that throws changes nothing but the TAPE")
    private static void refusedRun(Check c) {
        changesNothing(c, "run(0)", x -> x.run(0), Check.ARGUMENT);
        changesNothing(c, "run(2001)", x -> x.run(2001), Check.ARGUMENT);
    }

    @Sentence("a call that throws changes nothing but the TAPE")
    private static void refusedPoleAndWater(Check c) {
        changesNothing(c, "pole(-1)", x -> x.pole(-1), Check.INDEX);
        changesNothing(c, "pole(3)", x -> x.pole(3), Check.INDEX);
        changesNothing(c, "water(0)", x -> x.water(0), Check.ARGUMENT);
        changesNothing(c, "water(10)", x -> x.water(10), Check.ARGUMENT);
    }

    @Sentence("a call that throws changes nothing but the TAPE")
    private static void refusedLooks(Check c) {
        changesNothing(c, "look(60, 0)", x -> x.look(60, 0), Check.INDEX);
        changesNothing(c, "look(0, 6)", x -> x.look(0, 6), Check.NO_ELEMENT);
        changesNothing(c, "camp(0, 0)", x -> x.camp(0, 0), Check.INDEX);
        changesNothing(c, "camp(1, 4)", x -> x.camp(1, 4), Check.NO_ELEMENT);
        changesNothing(c, "reach(3, 0)", x -> x.reach(3, 0), Check.INDEX);
        changesNothing(c, "reach(0, 4)", x -> x.reach(0, 4), Check.NO_ELEMENT);
    }

    @Sentence("a call that throws changes nothing but the TAPE")
    private static void refusedWays(Check c) {
        changesNothing(c, "time(4, 0, 1, 1)", x -> x.time(4, 0, 1, 1), Check.INDEX);
        changesNothing(c, "time(2, 1, 1, 1)", x -> x.time(2, 1, 1, 1), Check.ARGUMENT);
        changesNothing(c, "waits(4, 1, 1, 1, 1)", x -> x.waits(4, 1, 1, 1, 1), Check.INDEX);
        changesNothing(c, "waits(1, 1, 1, 2, 1)", x -> x.waits(1, 1, 1, 2, 1), Check.ARGUMENT);
        changesNothing(c, "chance(4, 0)", x -> x.chance(4, 0), Check.INDEX);
        changesNothing(c, "chance(2, 1)", x -> x.chance(2, 1), Check.ARGUMENT);
        changesNothing(c, "repeats(4, 0, 0)", x -> x.repeats(4, 0, 0), Check.INDEX);
        changesNothing(c, "repeats(0, 1, -1)", x -> x.repeats(0, 1, -1), Check.ARGUMENT);
    }

    @Sentence("a call that throws changes nothing but the TAPE")
    private static void refusedOrders(Check c) {
        changesNothing(c, "order(3, 1)", x -> x.order(3, 1), Check.INDEX);
        changesNothing(c, "order(1, 0)", x -> x.order(1, 0), Check.ARGUMENT);
        changesNothing(c, "order(1, 10)", x -> x.order(1, 10), Check.ARGUMENT);
        changesNothing(c, "ahead(0, 2, 5)", x -> x.ahead(0, 2, 5), Check.INDEX);
        changesNothing(c, "ahead(1, 1, 5)", x -> x.ahead(1, 1, 5), Check.ARGUMENT);
        changesNothing(c, "ahead(0, 1, -1)", x -> x.ahead(0, 1, -1), Check.ARGUMENT);
        changesNothing(c, "ahead(0, 1, 1000)", x -> x.ahead(0, 1, 1000), Check.ARGUMENT);
        changesNothing(c, "plan(2)", x -> x.plan(2), Check.INDEX);
    }

    @Sentence("a call that throws changes nothing but the TAPE")
    private static void refusedThirteenthOrder(Check c) {
        FlumeOrders x = inTheMidst();
        FlumeOrders y = inTheMidst();
        for (int i = 2; i < 12; i++) {
            x.order(1, 1);
            y.order(1, 1);
        }
        changesNothing(c, "a 13th order", x, y, z -> z.order(2, 9), Check.UNSUPPORTED);
    }

    @Sentence("a call that throws changes nothing but the TAPE")
    private static void refusedLater(Check c) {
        changesNothing(c, "later(-1, 0)", x -> x.later(-1, 0), Check.ARGUMENT);
        changesNothing(c, "later(2001, 0)", x -> x.later(2001, 0), Check.ARGUMENT);
        changesNothing(c, "later(50, 6)", x -> x.later(50, 6), Check.NO_ELEMENT);
    }

    @Sentence("where it is used up, and fault(), where a text is read (also by one that is refused).")
    private static void refusedForest(Check c) {
        changesTheTapeAlone(c, "a wrong text", "water 9;frost 0 0;seed 9;reach 0 9 stick 9 bend 9;camp 1 1", FlumeOrders::forest,
            Check.ARGUMENT, 50);
        changesTheTapeAlone(c, "a text that is wrong at its begin", "saw", FlumeOrders::forest, Check.ARGUMENT, 0);
    }

    @Sentence("where it is used up, and fault(), where a text is read (also by one that is refused).")
    private static void refusedEleventhText(Check c) {
        FlumeOrders x = inTheMidst();
        FlumeOrders y = inTheMidst();
        for (int i = 1; i < 10; i++) {
            c.due("a text of nothing", Check.forest(x, ""), i + 1);
            Check.forest(y, "");
        }
        Check.chip(x, 0, 1, "to");
        changesTheTapeAlone(c, "an 11th text", x, y, "water 9;frost 0 0;seed 9;reach 0 9 stick 9 bend 9", FlumeOrders::forest,
            Check.UNSUPPORTED, NONE);
    }

    @Sentence("where it is used up, and fault(), where a text is read (also by one that is refused).")
    private static void refusedChip(Check c) {
        changesTheTapeAlone(c, "a chip at the mill", "all;cut 9;", x -> x.chip(3, 1), Check.INDEX, FAULT);
        changesTheTapeAlone(c, "a chip of no weight", "all;cut 9;", x -> x.chip(0, 0), Check.ARGUMENT, FAULT);
        changesTheTapeAlone(c, "a chip of wrong notches", "all;cut 9;", x -> x.chip(0, 1), Check.ARGUMENT, 10);
    }

    @Sentence("where it is used up, and fault(), where a text is read (also by one that is refused).")
    private static void refusedSixtyFirstChip(Check c) {
        FlumeOrders x = new FlumeOrders();
        FlumeOrders y = new FlumeOrders();
        for (FlumeOrders z : new FlumeOrders[] {x, y}) {
            Check.forest(z, "reach 0 1;camp 1 300");
            for (int i = 0; i < 60; i++) {
                Check.chip(z, 0, 1, "to 1;cut 1");
            }
            Check.forest(z, "water 0");
        }
        changesTheTapeAlone(c, "a 61st chip", x, y, "all;cut 9;send 5;answer", z -> z.chip(0, 1), Check.UNSUPPORTED, NONE);
    }

    @Sentence("where it is used up, and fault(), where a text is read (also by one that is refused).")
    private static void refusedFits(Check c) {
        changesTheTapeAlone(c, "no row", "1;2", x -> x.fits(NONE), Check.ARGUMENT, FAULT);
        changesTheTapeAlone(c, "a row of none", "", x -> x.fits(NONE), Check.ARGUMENT, FAULT);
        changesTheTapeAlone(c, "a row of seven", "1234567", x -> x.fits(0), Check.ARGUMENT, FAULT);
        changesTheTapeAlone(c, "k below NONE", "12", x -> x.fits(-2), Check.ARGUMENT, FAULT);
    }

    /** Nothing but what the document names may come of a call, however far its numbers lie. */
    @Sentence("IndexOutOfBoundsException: there is no such STATION, REACH, CAMP, CHIP, ORDER.")
    private static void farNumbers(Check c) {
        for (int n : FAR) {
            for (int m : new int[] {0, 1, n, MOST, LEAST}) {
                FlumeOrders x = inTheMidst();
                int[] got = {Check.answer(() -> x.time(n, m, 1, 1)), Check.answer(() -> x.time(m, n, 1, 1)),
                    Check.answer(() -> x.chance(n, m)), Check.answer(() -> x.repeats(m, n, m)), Check.answer(() -> x.waits(n, m, m, m, m)),
                    Check.answer(() -> x.look(n, m)), Check.answer(() -> x.camp(n, m)), Check.answer(() -> x.reach(n, m)),
                    Check.answer(() -> x.order(n, m)), Check.answer(() -> x.ahead(n, m, m)), Check.answer(() -> x.plan(n)),
                    Check.answer(() -> x.pole(n)), Check.answer(() -> x.chip(n, m))};
                for (int i = 0; i < got.length; i++) {
                    c.due("call " + i + " of " + n + " and " + m, got[i], Check.INDEX);
                }
                c.throwsDue("later", () -> x.later(n < 2001 && n > 0 ? -n : n, m), Check.ARGUMENT);
                c.throwsDue("run", () -> x.run(n < 2001 && n > 0 ? -n : n), Check.ARGUMENT);
                c.due("out", Check.answer(() -> x.out(n)), NONE);
                c.due("count", Check.answer(() -> x.count(n)), NONE);
                c.due("test", Check.answer(() -> x.test(n)) >= NONE, true);
            }
        }
    }
}
