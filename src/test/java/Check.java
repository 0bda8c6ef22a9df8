import java.util.function.IntSupplier;

/** What the tests share: feeding texts, comparing answers, and naming the exception that a call throws. */
final class Check {
    private int wrong;
    private int asked;

    /** A throw is told by a number far below every answer. */
    static final int INDEX = -1001;
    static final int ARGUMENT = -1002;
    static final int UNSUPPORTED = -1003;
    static final int NO_ELEMENT = -1004;
    static final int OTHER = -1005;

    void due(String call, int got, int want) {
        asked++;
        if (got != want) {
            wrong++;
            System.out.println(call + " answered " + got + ", due is " + want);
        }
    }

    void due(String call, boolean got, boolean want) {
        due(call, got ? 1 : 0, want ? 1 : 0);
    }

    /** The answer of a call, or what it throws. */
    static int answer(IntSupplier call) {
        try {
            return call.getAsInt();
        } catch (RuntimeException e) {
            Class<?> c = e.getClass();
            return c == IndexOutOfBoundsException.class ? INDEX
                : c == IllegalArgumentException.class ? ARGUMENT
                : c == UnsupportedOperationException.class ? UNSUPPORTED
                : c == java.util.NoSuchElementException.class ? NO_ELEMENT : OTHER;
        }
    }

    void throwsDue(String call, IntSupplier made, int want) {
        due(call, answer(made), want);
    }

    static int[] numbersOf(String text) {
        int[] numbers = new int[(text.length() + 19) / 20 * 5];
        for (int i = 0; i < text.length(); i++) {
            numbers[i / 4] |= (text.charAt(i) & 255) << 24 - 8 * (i % 4);
        }
        return numbers;
    }

    static void feed(FlumeOrders x, String text) {
        x.end(0);
        int[] n = numbersOf(text);
        for (int i = 0; i < n.length; i += 5) {
            x.feed(n[i], n[i + 1], n[i + 2], n[i + 3], n[i + 4]);
        }
        x.end(text.length());
    }

    static int forest(FlumeOrders x, String text) {
        feed(x, text);
        return answer(x::forest);
    }

    static int chip(FlumeOrders x, int station, int weight, String text) {
        feed(x, text);
        return answer(() -> x.chip(station, weight));
    }

    static int fits(FlumeOrders x, String row, int k) {
        feed(x, row);
        return answer(() -> x.fits(k));
    }

    /** A new object whose forest is told by one text, which must be right. */
    static FlumeOrders forestOf(String text) {
        FlumeOrders x = new FlumeOrders();
        if (forest(x, text) != 1) {
            throw new IllegalStateException("the forest of a test was refused: " + text);
        }
        return x;
    }

    /** So many camps, each by a reach of length 1, and of 5 trees. */
    static String camps(int count) {
        return count == 0 ? "" : "camp 1 5;".repeat(count - 1) + "camp 1 5";
    }

    /** Any number of minutes from 1 on, by as few calls as there can be. */
    static void run(FlumeOrders x, int minutes) {
        for (int left = minutes; left > 0; left -= 2000) {
            x.run(Math.min(left, 2000));
        }
    }

    /** A text of the forest that must be wrong at a place. */
    void forestFault(String text, int place) {
        forestFault(new FlumeOrders(), text, place);
    }

    void forestFault(FlumeOrders x, String text, int place) {
        due("forest of '" + text + "'", forest(x, text), ARGUMENT);
        due("fault of '" + text + "'", x.fault(), place);
    }

    void forestRight(String text) {
        FlumeOrders x = new FlumeOrders();
        due("forest of '" + text + "'", forest(x, text), 1);
        due("fault of '" + text + "'", x.fault(), FlumeOrders.NONE);
    }

    void chipFault(String text, int place) {
        FlumeOrders x = new FlumeOrders();
        due("chip of '" + text + "'", chip(x, 0, 1, text), ARGUMENT);
        due("fault of '" + text + "'", x.fault(), place);
        due("chips after '" + text + "'", x.count(2), 0);
    }

    void chipRight(String text) {
        FlumeOrders x = new FlumeOrders();
        due("chip of '" + text + "'", chip(x, 0, 1, text), 0);
        due("fault of '" + text + "'", x.fault(), FlumeOrders.NONE);
    }

    /** State, place, minutes to go, and the minute in which it came there. */
    void looks(FlumeOrders x, int chip, int state, int place, int toGo, int came) {
        due("state of chip " + chip, x.look(chip, 0), state);
        due("place of chip " + chip, x.look(chip, 1), place);
        due("to go of chip " + chip, x.look(chip, 2), toGo);
        due("chip " + chip + " came", x.look(chip, 4), came);
    }

    boolean isRight() {
        return wrong == 0;
    }

    void over(String test) {
        System.out.println(test + ": " + asked + " answers, " + wrong + " not as due");
        if (wrong != 0) {
            System.exit(1);
        }
    }
}
