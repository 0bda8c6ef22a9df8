import java.util.Random;
import java.util.function.IntSupplier;

/** Runs of calls by drawn numbers (always the same ones), each answer held against PlainForest. */
public final class RandomRunsTest {
    private static final int RUNS = 2500;
    /** What an object answers behind so many calls is free. */
    private static final int MOST_CALLS = 512;
    private final Check check = new Check();
    private final Random draw;
    private final FlumeOrders x = new FlumeOrders();
    private final PlainForest p = new PlainForest();
    private final int run;
    /** How long minutes and ways may be in this run. */
    private final int longest;
    private final boolean isMuddled;
    private int calls;

    private RandomRunsTest(int run) {
        this.run = run;
        draw = new Random(run * 7919L + 17);
        longest = new int[] {3, 20, 120, 2000}[draw.nextInt(4)];
        isMuddled = draw.nextInt(4) == 0;
    }

    public static void main(String[] args) {
        int runs = args.length > 0 ? Integer.parseInt(args[0]) : RUNS;
        int made = 0;
        for (int i = 0; i < runs; i++) {
            RandomRunsTest t = new RandomRunsTest(i);
            made += t.go();
        }
        System.out.println("RandomRunsTest: " + runs + " runs, " + made + " calls, all as due");
    }

    private int go() {
        for (int i = draw.nextInt(4); i > 0; i--) {
            forest();
        }
        if (draw.nextInt(12) == 0) {
            crowd();
        }
        int most = 40 + draw.nextInt(320);
        while (calls < most) {
            call();
            if (draw.nextInt(30) == 0) {
                compareAll();
            }
        }
        compareAll();
        return calls;
    }

    /** Many chips by few calls. */
    private void crowd() {
        int count = any(30, 58);
        for (int i = 0; i < count; i++) {
            feed(draw.nextInt(4) == 0 ? "all;cut 1;send 1;answer if logs<1" : "all");
            int weight = any(1, 9);
            same("chip(0, " + weight + ")", () -> x.chip(0, weight), () -> p.chip(0, weight));
        }
    }

    private void same(String call, IntSupplier of, IntSupplier due) {
        if (calls >= MOST_CALLS) {
            return;
        }
        calls++;
        int got = Check.answer(of);
        int want = Check.answer(due);
        if (got != want) {
            System.out.println("run " + run + ", call " + calls + ": " + call + " answered " + got + ", due is " + want);
            System.exit(1);
        }
    }

    private int any(int least, int most) {
        return least + draw.nextInt(most - least + 1);
    }

    /** Mostly within bounds, at times just beyond them, or far. */
    private int around(int least, int most) {
        int kind = draw.nextInt(24);
        if (kind == 0) {
            return least - 1;
        }
        if (kind == 1) {
            return most + 1;
        }
        if (kind == 2 && draw.nextInt(4) == 0) {
            return draw.nextInt();
        }
        return most < least ? least : any(least, most);
    }

    private int stations() {
        return p.count(0) + 1;
    }

    private void call() {
        int kind = draw.nextInt(30);
        if (kind < 6) {
            chip();
        } else if (kind < 11) {
            int m = around(1, longest);
            same("run(" + m + ")", () -> x.run(m), () -> p.run(m));
        } else if (kind == 11) {
            int r = around(0, p.count(0));
            same("pole(" + r + ")", () -> x.pole(r), () -> p.pole(r));
        } else if (kind == 12) {
            int w = around(1, 9);
            same("water(" + w + ")", () -> x.water(w), () -> p.water(w));
        } else if (kind == 13) {
            forest();
        } else if (kind == 14) {
            tape();
        } else if (kind < 18) {
            ways();
        } else if (kind < 22) {
            orders();
        } else if (kind == 22) {
            fits();
        } else if (kind == 23) {
            int r = draw.nextInt(3) == 0 ? draw.nextInt() : draw.nextInt(4096);
            same("test(" + r + ")", () -> x.test(r), () -> p.test(r));
        } else if (kind < 26) {
            int m = around(0, longest);
            int what = around(0, 5);
            same("later(" + m + ", " + what + ")", () -> x.later(m, what), () -> p.later(m, what));
        } else if (kind == 26) {
            image();
        } else if (kind == 27 && draw.nextInt(2) == 0) {
            same("back()", () -> x.back() ? 1 : 0, () -> p.back() ? 1 : 0);
        } else {
            look();
        }
    }

    private void image() {
        if (calls < MOST_CALLS) {
            calls++;
            x.image();
            p.image();
        }
    }

    private void look() {
        int c = around(0, p.count(2) - 1);
        int camp = around(1, p.count(0));
        int r = around(0, p.count(0));
        int what = around(0, 5);
        same("look(" + c + ", " + what + ")", () -> x.look(c, what), () -> p.look(c, what));
        same("camp(" + camp + ", " + what + ")", () -> x.camp(camp, what), () -> p.camp(camp, what));
        same("reach(" + r + ", " + what + ")", () -> x.reach(r, what), () -> p.reach(r, what));
        same("out(" + c + ")", () -> x.out(c), () -> p.out(c));
    }

    /** All that can be seen; of many chips not each thing of each one. */
    private void compareAll() {
        for (int i = -1; i <= 10; i++) {
            int k = i;
            same("count(" + k + ")", () -> x.count(k), () -> p.count(k));
        }
        int step = p.count(2) > 6 ? any(2, 5) : 1;
        for (int i = 0; i <= p.count(2); i++) {
            for (int what = i % step; what < 6; what += step) {
                int c = i;
                int w = what;
                same("look(" + c + ", " + w + ")", () -> x.look(c, w), () -> p.look(c, w));
            }
        }
        for (int i = 0; i < stations(); i++) {
            for (int what = 0; what < 4; what++) {
                int c = i;
                int w = what;
                same("camp(" + c + ", " + w + ")", () -> x.camp(c, w), () -> p.camp(c, w));
                same("reach(" + c + ", " + w + ")", () -> x.reach(c, w), () -> p.reach(c, w));
            }
        }
        for (int i = 0; i <= p.count(3); i++) {
            int k = i;
            same("out(" + k + ")", () -> x.out(k), () -> p.out(k));
        }
        same("fault()", x::fault, p::fault);
    }

    private void ways() {
        int from = around(0, stations());
        int to = draw.nextInt(4) == 0 ? around(0, stations()) : around(Math.max(0, Math.min(from, stations())), stations());
        int weight = around(1, 9);
        int second = around(1, 9);
        int water = around(1, 9);
        int most = draw.nextInt(3) == 0 ? around(1, 9) : around(Math.min(Math.max(water, 1), 9), 9);
        int millionths = new int[] {around(0, 1000000), around(0, 100), around(1000000, 1000000), 0}[draw.nextInt(4)];
        same("time", () -> x.time(from, to, weight, water), () -> p.time(from, to, weight, water));
        same("waits", () -> x.waits(to, weight, second, water, most), () -> p.waits(to, weight, second, water, most));
        same("chance", () -> x.chance(from, to), () -> p.chance(from, to));
        same("repeats", () -> x.repeats(from, to, millionths), () -> p.repeats(from, to, millionths));
    }

    private void orders() {
        int camp = around(1, p.count(0));
        int weight = around(1, 9);
        int first = around(0, p.count(6) - 1);
        int second = around(0, p.count(6) - 1);
        int minutes = draw.nextInt(4) == 0 ? 0 : around(0, 999);
        int kind = draw.nextInt(5);
        if (kind < 2) {
            same("order(" + camp + ", " + weight + ")", () -> x.order(camp, weight), () -> p.order(camp, weight));
        } else if (kind < 4) {
            int a = draw.nextInt(8) == 0 ? second : Math.min(first, second);
            int b = draw.nextInt(8) == 0 ? first : Math.max(first, second);
            same("ahead(" + a + ", " + b + ", " + minutes + ")", () -> x.ahead(a, b, minutes), () -> p.ahead(a, b, minutes));
        }
        same("plan(" + first + ")", () -> x.plan(first), () -> p.plan(first));
        same("plan(-1)", () -> x.plan(-1), () -> p.plan(-1));
    }

    private void fits() {
        StringBuilder b = new StringBuilder();
        int few = any(1, 9);
        for (int i = draw.nextInt(12) == 0 ? any(0, 8) : any(1, 6); i > 0; i--) {
            b.append(draw.nextInt(40) == 0 ? any(0, 255) : any(1, few)).setLength(Math.min(b.length(), 8));
        }
        feed(b.toString());
        int k = around(-1, 6);
        same("fits(" + k + ") of " + b, () -> x.fits(k), () -> p.fits(k));
    }

    private void tape() {
        int n = around(0, 400);
        int a = draw.nextInt();
        same("feed", () -> x.feed(a, n, a, n, a), () -> p.feed(a, n, a, n, a));
        same("end(" + n + ")", () -> x.end(n) ? 1 : 0, () -> p.end(n) ? 1 : 0);
    }

    private void feed(String text) {
        if (draw.nextInt(50) != 0) {
            same("end(0)", () -> x.end(0) ? 1 : 0, () -> p.end(0) ? 1 : 0);
        }
        int[] n = Check.numbersOf(text);
        for (int i = 0; i < n.length; i += 5) {
            int k = i;
            same("feed", () -> x.feed(n[k], n[k + 1], n[k + 2], n[k + 3], n[k + 4]),
                () -> p.feed(n[k], n[k + 1], n[k + 2], n[k + 3], n[k + 4]));
        }
        same("end(" + text.length() + ")", () -> x.end(text.length()) ? 1 : 0, () -> p.end(text.length()) ? 1 : 0);
    }

    private void forest() {
        StringBuilder b = new StringBuilder();
        int lines = draw.nextInt(12) == 0 ? any(12, 16) : any(0, 4);
        int camps = p.count(0);
        for (int i = 0; i < lines; i++) {
            if (i > 0) {
                put(b, ";");
            }
            int kind = draw.nextInt(8);
            if (kind < 4 && (p.count(2) == 0 || draw.nextInt(8) == 0) && (camps < 11 || draw.nextInt(3) == 0)) {
                put(b, "camp");
                put(b, "" + around(1, Math.min(20, longest)));
                put(b, "" + (draw.nextInt(2) == 0 ? around(0, 999) : any(0, 12)));
                camps++;
            } else if (kind < 6) {
                put(b, "reach");
                put(b, "" + around(0, camps));
                put(b, "" + around(1, Math.min(20, longest)));
                if (draw.nextInt(2) == 0) {
                    put(b, "stick");
                    put(b, "" + around(0, 99));
                }
                if (draw.nextInt(2) == 0) {
                    put(b, "bend");
                    put(b, "" + (draw.nextInt(2) == 0 ? 1 : around(0, 9)));
                }
            } else if (kind == 6) {
                put(b, draw.nextInt(2) == 0 ? "water" : "seed");
                put(b, "" + around(1, 9));
            } else {
                put(b, "frost");
                put(b, "" + around(0, 23));
                put(b, "" + around(0, 23));
            }
        }
        feed(spoil(b));
        same("forest() of " + b, x::forest, p::forest);
        same("fault() of " + b, x::fault, p::fault);
    }

    private void chip() {
        StringBuilder b = new StringBuilder();
        int head = draw.nextInt(6);
        if (head < 3) {
            put(b, "to");
            put(b, "" + around(1, Math.max(1, p.count(0))));
        } else {
            put(b, head == 3 ? "mill" : "all");
        }
        for (int acts = draw.nextInt(20) == 0 ? any(7, 9) : draw.nextInt(5); acts > 0; acts--) {
            put(b, ";");
            act(b);
        }
        feed(spoil(b));
        int station = draw.nextInt(3) == 0 ? around(0, p.count(0)) : 0;
        int weight = draw.nextInt(2) == 0 ? around(1, 9) : any(1, 2);
        same("chip(" + station + ", " + weight + ") of " + b, () -> x.chip(station, weight), () -> p.chip(station, weight));
        same("fault() of " + b, x::fault, p::fault);
    }

    private void act(StringBuilder b) {
        int kind = draw.nextInt(8);
        if (kind == 7) {
            put(b, "void");
            put(b, "" + (draw.nextInt(2) == 0 ? around(0, 59) : Math.min(59, any(0, p.count(2) + 2))));
            return;
        }
        put(b, kind < 3 ? "cut" : kind < 5 ? "send" : "answer");
        if (kind < 5) {
            put(b, "" + (draw.nextInt(8) == 0 ? around(1, 999) : any(1, 9)));
        }
        if (draw.nextInt(3) == 0) {
            put(b, "if");
            question(b, draw.nextInt(3) == 0 ? 7 : 3);
        }
    }

    private void question(StringBuilder b, int deep) {
        for (int i = draw.nextInt(3); i >= 0; i--) {
            atom(b, deep);
            if (i > 0) {
                put(b, draw.nextInt(2) == 0 ? "and" : "or");
            }
        }
    }

    private void atom(StringBuilder b, int deep) {
        int kind = b.length() > 250 ? 9 : draw.nextInt(8);
        if (kind < 2 && deep > 0) {
            put(b, "not");
            atom(b, deep - 1);
        } else if (kind < 5 && deep > 0) {
            put(b, "(");
            question(b, deep - 1);
            put(b, ")");
        } else if (kind == 5) {
            put(b, "frost");
        } else {
            sum(b);
            put(b, draw.nextInt(2) == 0 ? "<" : ">");
            sum(b);
        }
    }

    private void sum(StringBuilder b) {
        for (int i = draw.nextInt(3); i >= 0; i--) {
            String[] parts = {"trees", "logs", "sent", "water", "hour", "weight"};
            put(b, draw.nextInt(3) == 0 ? "" + any(0, draw.nextInt(10) == 0 ? 1100 : 9) : parts[draw.nextInt(6)]);
            if (i > 0) {
                put(b, "+");
            }
        }
    }

    /** A blank between two words, or two numbers, at least. */
    private void put(StringBuilder b, String thing) {
        boolean mustPart = b.length() > 0 && Character.isLetter(b.charAt(b.length() - 1)) == Character.isLetter(thing.charAt(0))
            && Character.isLetterOrDigit(b.charAt(b.length() - 1)) && Character.isLetterOrDigit(thing.charAt(0));
        int blanks = draw.nextInt(3) == 0 ? draw.nextInt(3) : mustPart ? 1 : 0;
        b.append(" ".repeat(mustPart ? Math.max(1, blanks) : blanks)).append(thing);
    }

    private String spoil(StringBuilder b) {
        if (draw.nextInt(8) == 0) {
            b.append(" ".repeat(any(1, 3)));
        }
        int times = draw.nextInt(isMuddled ? 2 : 12) == 0 ? any(1, 2) : 0;
        String signs = " ;()<>+09azcbtofinr~\u00e9A";
        for (int i = 0; i < times && b.length() > 0; i++) {
            int at = draw.nextInt(b.length());
            char sign = signs.charAt(draw.nextInt(signs.length()));
            switch (draw.nextInt(4)) {
                case 0: b.deleteCharAt(at); break;
                case 1: b.insert(at, sign); break;
                case 2: b.setCharAt(at, sign); break;
                default: b.setLength(at);
            }
        }
        b.setLength(Math.min(b.length(), 400));
        return b.toString();
    }
}
