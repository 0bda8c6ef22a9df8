import java.util.ArrayList;
import java.util.Arrays;
import java.util.HashMap;
import java.util.List;
import java.util.Map;
import java.util.NoSuchElementException;
import java.util.TreeMap;
import java.util.TreeSet;
import java.util.function.BooleanSupplier;
import java.util.function.IntSupplier;

/**
 * The document once more, written without regard to speed and room: every minute is gone through one by one, lists
 * grow as they like, and questions are asked of the text anew each time. RandomRunsTest holds the program against it.
 */
final class PlainForest {
    @SuppressWarnings("serial")
    static final class Wrong extends RuntimeException {
        final int place;

        Wrong(int place) {
            super(null, null, false, false);
            this.place = place;
        }
    }

    static final class PlainChip {
        String state = "waits";
        int place;
        int toGo;
        int weight;
        int came;
        int told = -1;
        String text = "mill";

        PlainChip copy() {
            PlainChip c = new PlainChip();
            c.state = state;
            c.place = place;
            c.toGo = toGo;
            c.weight = weight;
            c.came = came;
            c.told = told;
            c.text = text;
            return c;
        }
    }

    /** Everything of the image. Stations are counted from 0, so that of a list of camps the first one is unused. */
    static final class State {
        List<Integer> lengths = new ArrayList<>(List.of(10));
        List<Integer> sticks = new ArrayList<>(List.of(0));
        List<Integer> bends = new ArrayList<>(List.of(0));
        List<int[]> camps = new ArrayList<>(List.of(new int[4]));
        List<TreeSet<Integer>> voided = new ArrayList<>(List.of(new TreeSet<>()));
        List<TreeSet<Integer>> done = new ArrayList<>(List.of(new TreeSet<>()));
        List<PlainChip> chips = new ArrayList<>();
        List<Integer> outs = new ArrayList<>();
        List<int[]> orders = new ArrayList<>();
        Map<List<Integer>, Integer> pairs = new HashMap<>();
        int texts;
        int water = 5;
        int frostFrom;
        int frostTo;
        int clock;
        int seed = 1;

        State copy() {
            State s = new State();
            s.lengths = new ArrayList<>(lengths);
            s.sticks = new ArrayList<>(sticks);
            s.bends = new ArrayList<>(bends);
            s.camps = new ArrayList<>();
            camps.forEach(c -> s.camps.add(c.clone()));
            s.voided = new ArrayList<>();
            voided.forEach(v -> s.voided.add(new TreeSet<>(v)));
            s.done = new ArrayList<>();
            done.forEach(d -> s.done.add(new TreeSet<>(d)));
            chips.forEach(c -> s.chips.add(c.copy()));
            s.outs = new ArrayList<>(outs);
            orders.forEach(o -> s.orders.add(o.clone()));
            s.pairs = new HashMap<>(pairs);
            s.texts = texts;
            s.water = water;
            s.frostFrom = frostFrom;
            s.frostTo = frostTo;
            s.clock = clock;
            s.seed = seed;
            return s;
        }

        int mill() {
            return lengths.size();
        }

        boolean frost() {
            int hour = hour();
            for (int h = frostFrom; h != frostTo; h = (h + 1) % 24) {
                if (h == hour) {
                    return true;
                }
            }
            return false;
        }

        int hour() {
            return clock / 60 % 24;
        }

        int inside(int reach) {
            int n = 0;
            for (PlainChip c : chips) {
                if (c.place == reach && (c.state.equals("goes") || c.state.equals("sticks"))) {
                    n++;
                }
            }
            return n;
        }
    }

    String tape = "";
    State s = new State();
    State image;
    int fault = -1;

    // ---- texts: read sign by sign

    /** A reader that stands in a text; it throws Wrong at the first wrong byte. */
    final class Reader {
        final String text;
        int at;

        Reader(String text) {
            this.text = text;
        }

        String peek() {
            while (at < text.length() && text.charAt(at) == ' ') {
                at++;
            }
            if (at == text.length()) {
                return "";
            }
            int e = at;
            while (e < text.length() && text.charAt(e) >= 'a' && text.charAt(e) <= 'z') {
                e++;
            }
            if (e == at) {
                while (e < text.length() && text.charAt(e) >= '0' && text.charAt(e) <= '9') {
                    e++;
                }
            }
            return text.substring(at, Math.max(e, at + 1));
        }

        boolean is(String thing) {
            return peek().equals(thing);
        }

        boolean eat(String thing) {
            if (!is(thing)) {
                return false;
            }
            at += thing.length();
            return true;
        }

        Wrong wrong() {
            peek();
            return new Wrong(at);
        }

        void must(String thing) {
            if (!eat(thing)) {
                throw wrong();
            }
        }

        int number(int least, int most) {
            String p = peek();
            if (!p.matches("[0-9]{1,3}") || Integer.parseInt(p) < least || Integer.parseInt(p) > most) {
                throw wrong();
            }
            at += p.length();
            return Integer.parseInt(p);
        }

        void over() {
            if (!is("")) {
                throw wrong();
            }
        }
    }

    private void readForest(String text, State t) {
        Reader r = new Reader(text);
        if (r.is("")) {
            return;
        }
        int lines = 0;
        do {
            if (++lines > 14) {
                throw r.wrong();
            }
            if (r.is("camp")) {
                if (t.mill() - 1 == 11 || !t.chips.isEmpty()) {
                    throw r.wrong();
                }
                r.must("camp");
                t.lengths.add(r.number(1, 20));
                t.sticks.add(0);
                t.bends.add(0);
                t.camps.add(new int[] {r.number(0, 999), 0, 0, 0});
                t.voided.add(new TreeSet<>());
                t.done.add(new TreeSet<>());
            } else if (r.eat("reach")) {
                int n = r.number(0, t.mill() - 1);
                t.lengths.set(n, r.number(1, 20));
                t.sticks.set(n, r.eat("stick") ? r.number(0, 99) : 0);
                t.bends.set(n, r.eat("bend") ? r.number(0, 9) : 0);
            } else if (r.eat("water")) {
                t.water = r.number(1, 9);
            } else if (r.eat("frost")) {
                t.frostFrom = r.number(0, 23);
                t.frostTo = r.number(0, 23);
            } else if (r.eat("seed")) {
                t.seed = r.number(0, 999);
            } else {
                throw r.wrong();
            }
        } while (r.eat(";"));
        r.over();
    }

    /** The notches as things to do; each asks and acts when it is run. */
    final class Carved {
        int head;
        final List<Runnable> acts = new ArrayList<>();
        State t;
        int self;
        int[] camp;

        Carved(String text) {
            Reader r = new Reader(text);
            if (r.eat("to")) {
                head = r.number(1, 11);
            } else if (r.eat("all")) {
                head = 0;
            } else if (r.eat("mill")) {
                head = -1;
            } else {
                throw r.wrong();
            }
            while (r.eat(";")) {
                if (acts.size() == 8) {
                    throw r.wrong();
                }
                acts.add(act(r));
            }
            r.over();
        }

        void run(State state, int number, int station) {
            t = state;
            self = number;
            camp = state.camps.get(station);
            acts.forEach(Runnable::run);
        }

        private Runnable act(Reader r) {
            Runnable what;
            if (r.eat("void")) {
                int k = r.number(0, 59);
                return () -> annul(k);
            } else if (r.eat("cut")) {
                int n = r.number(1, 999);
                what = () -> move(0, 1, n);
            } else if (r.eat("send")) {
                int n = r.number(1, 999);
                what = () -> move(1, 2, n);
            } else if (r.eat("answer")) {
                what = this::answer;
            } else {
                throw r.wrong();
            }
            if (!r.eat("if")) {
                return what;
            }
            BooleanSupplier q = any(r, 0);
            Runnable then = what;
            return () -> {
                if (q.getAsBoolean()) {
                    then.run();
                }
            };
        }

        private void move(int from, int to, int most) {
            for (int i = 0; i < most && camp[from] > 0; i++) {
                camp[from]--;
                camp[to]++;
            }
        }

        private void answer() {
            if (t.chips.size() < 60) {
                PlainChip c = new PlainChip();
                c.place = t.camps.indexOf(camp);
                c.weight = 1;
                c.came = t.clock;
                c.told = camp[1];
                t.chips.add(c);
            }
        }

        private void annul(int k) {
            int station = t.camps.indexOf(camp);
            t.voided.get(station).add(k);
            if (k != self && t.done.get(station).contains(k)) {
                camp[3]++;
            }
        }

        private BooleanSupplier any(Reader r, int deep) {
            BooleanSupplier q = all(r, deep);
            while (r.eat("or")) {
                BooleanSupplier left = q;
                BooleanSupplier right = all(r, deep);
                q = () -> left.getAsBoolean() || right.getAsBoolean();
            }
            return q;
        }

        private BooleanSupplier all(Reader r, int deep) {
            BooleanSupplier q = one(r, deep);
            while (r.eat("and")) {
                BooleanSupplier left = q;
                BooleanSupplier right = one(r, deep);
                q = () -> left.getAsBoolean() && right.getAsBoolean();
            }
            return q;
        }

        private BooleanSupplier one(Reader r, int deep) {
            if ((r.is("not") || r.is("(")) && deep == 6) {
                throw r.wrong();
            }
            if (r.eat("not")) {
                BooleanSupplier q = one(r, deep + 1);
                return () -> !q.getAsBoolean();
            }
            if (r.eat("(")) {
                BooleanSupplier q = any(r, deep + 1);
                r.must(")");
                return q;
            }
            if (r.eat("frost")) {
                return () -> t.frost();
            }
            IntSupplier left = sum(r);
            boolean less = r.is("<");
            if (!less && !r.is(">")) {
                throw r.wrong();
            }
            r.at++;
            IntSupplier right = sum(r);
            return () -> less ? left.getAsInt() < right.getAsInt() : left.getAsInt() > right.getAsInt();
        }

        private IntSupplier sum(Reader r) {
            List<IntSupplier> parts = new ArrayList<>();
            do {
                parts.add(part(r));
            } while (r.eat("+"));
            return () -> parts.stream().mapToInt(IntSupplier::getAsInt).sum();
        }

        private IntSupplier part(Reader r) {
            if (r.eat("trees")) {
                return () -> camp[0];
            } else if (r.eat("logs")) {
                return () -> camp[1];
            } else if (r.eat("sent")) {
                return () -> camp[2];
            } else if (r.eat("water")) {
                return () -> t.water;
            } else if (r.eat("hour")) {
                return () -> t.hour();
            } else if (r.eat("weight")) {
                return () -> t.chips.get(self).weight;
            }
            int n = r.number(0, 999);
            return () -> n;
        }
    }

    // ---- minutes

    private void minute(State t) {
        if (!t.frost()) {
            int before = t.chips.size();
            for (int i = 0; i < before; i++) {
                if (t.chips.get(i).state.equals("goes")) {
                    t.chips.get(i).toGo--;
                }
            }
            for (int i = 0; i < before; i++) {
                PlainChip c = t.chips.get(i);
                if (c.state.equals("goes") && c.toGo == 0) {
                    come(t, c, i);
                }
            }
            for (int reach = t.mill() - 1; reach >= 0; reach--) {
                enterAll(t, reach);
            }
        }
        t.clock++;
    }

    private void come(State t, PlainChip c, int number) {
        c.place++;
        c.came = t.clock;
        if (c.place == t.mill()) {
            c.state = "out";
            t.outs.add(number);
            return;
        }
        Carved carved = new Carved(c.text);
        c.state = carved.head == c.place ? "taken" : "waits";
        boolean isFor = carved.head == c.place || carved.head == 0;
        if (isFor && !t.voided.get(c.place).contains(number)) {
            carved.run(t, number, c.place);
            t.done.get(c.place).add(number);
        }
    }

    private void enterAll(State t, int reach) {
        TreeMap<Long, PlainChip> queue = new TreeMap<>();
        for (int i = 0; i < t.chips.size(); i++) {
            PlainChip c = t.chips.get(i);
            if (c.state.equals("waits") && c.place == reach) {
                queue.put(c.came * 100L + i, c);
            }
        }
        for (PlainChip c : queue.values()) {
            if (t.bends.get(reach) > 0 && t.inside(reach) >= t.bends.get(reach)) {
                return;
            }
            c.state = "goes";
            c.came = t.clock;
            c.toGo = t.lengths.get(reach) * (c.weight + 10 - t.water);
            if (t.sticks.get(reach) > 0) {
                t.seed = 1103515245 * t.seed + 12345;
                long bits = ((t.seed & 0xffffffffL) >> 16) & 0x7fff;
                if (bits % 100 < t.sticks.get(reach)) {
                    c.state = "sticks";
                }
            }
        }
    }

    // ---- the face

    int feed(int... numbers) {
        if (tape.length() + 20 > 400) {
            return -1;
        }
        StringBuilder b = new StringBuilder(tape);
        for (int n : numbers) {
            b.append((char) (n >> 24 & 255)).append((char) (n >> 16 & 255)).append((char) (n >> 8 & 255)).append((char) (n & 255));
        }
        tape = b.toString();
        return tape.length();
    }

    boolean end(int n) {
        if (n < 0 || n > tape.length()) {
            return false;
        }
        tape = tape.substring(0, n);
        return true;
    }

    private String useUp() {
        String t = tape;
        tape = "";
        return t;
    }

    int forest() {
        State t = s.copy();
        fault = -1;
        try {
            readForest(useUp(), t);
        } catch (Wrong w) {
            fault = w.place;
            throw new IllegalArgumentException();
        }
        if (s.texts == 10) {
            throw new UnsupportedOperationException();
        }
        s = t;
        return ++s.texts;
    }

    int chip(int station, int weight) {
        String text = useUp();
        if (station < 0 || station >= s.mill()) {
            throw new IndexOutOfBoundsException();
        }
        range(weight, 1, 9);
        fault = -1;
        try {
            new Carved(text);
        } catch (Wrong w) {
            fault = w.place;
            throw new IllegalArgumentException();
        }
        if (s.chips.size() == 60) {
            throw new UnsupportedOperationException();
        }
        PlainChip c = new PlainChip();
        c.place = station;
        c.weight = weight;
        c.came = s.clock;
        c.text = text;
        s.chips.add(c);
        return s.chips.size() - 1;
    }

    int fault() {
        return fault;
    }

    int run(int minutes) {
        range(minutes, 1, 2000);
        int before = s.outs.size();
        for (int i = 0; i < minutes; i++) {
            minute(s);
        }
        return s.outs.size() - before;
    }

    int pole(int reach) {
        index(reach, 0, s.mill() - 1);
        int n = 0;
        for (PlainChip c : s.chips) {
            if (c.state.equals("sticks") && c.place == reach) {
                c.state = "goes";
                n++;
            }
        }
        return n;
    }

    int water(int n) {
        range(n, 1, 9);
        int old = s.water;
        s.water = n;
        return old;
    }

    int look(int chip, int what) {
        index(chip, 0, s.chips.size() - 1);
        element(what, 5);
        PlainChip c = s.chips.get(chip);
        return new int[] {List.of("waits", "goes", "sticks", "taken", "out").indexOf(c.state), c.place, c.toGo, c.weight,
            c.came, c.told}[what];
    }

    int camp(int camp, int what) {
        index(camp, 1, s.mill() - 1);
        element(what, 3);
        return s.camps.get(camp)[what];
    }

    int reach(int reach, int what) {
        index(reach, 0, s.mill() - 1);
        element(what, 3);
        return new int[] {s.lengths.get(reach), s.sticks.get(reach), s.bends.get(reach), s.inside(reach)}[what];
    }

    int out(int k) {
        return k < 0 || k >= s.outs.size() ? -1 : s.outs.get(k);
    }

    int time(int from, int to, int weight, int water) {
        index(from, 0, s.mill());
        index(to, 0, s.mill());
        range(to, from, s.mill());
        range(weight, 1, 9);
        range(water, 1, 9);
        int sum = 0;
        for (int i = from; i < to; i++) {
            sum += s.lengths.get(i) * (weight + 10 - water);
        }
        return sum;
    }

    int waits(int to, int first, int second, int least, int greatest) {
        index(to, 0, s.mill());
        range(first, 1, 9);
        range(second, 1, 9);
        range(least, 1, 9);
        range(greatest, least, 9);
        for (int wait = 0;; wait++) {
            boolean never = true;
            for (int w = least; w <= greatest; w++) {
                never &= wait + time(0, to, second, w) > time(0, to, first, w);
            }
            if (never) {
                return wait;
            }
        }
    }

    int order(int camp, int weight) {
        index(camp, 1, s.mill() - 1);
        range(weight, 1, 9);
        if (s.orders.size() == 12) {
            throw new UnsupportedOperationException();
        }
        s.orders.add(new int[] {camp, weight});
        return s.orders.size() - 1;
    }

    int ahead(int first, int second, int minutes) {
        index(first, 0, s.orders.size() - 1);
        index(second, 0, s.orders.size() - 1);
        if (first == second) {
            throw new IllegalArgumentException();
        }
        range(minutes, 0, 999);
        Integer old = minutes == 0 ? s.pairs.remove(List.of(first, second)) : s.pairs.put(List.of(first, second), minutes);
        return old == null ? 0 : old;
    }

    /** When an order comes at the earliest, by all that must come ahead of it; Wrong if a way leads round. */
    private int comes(int order, List<Integer> behind) {
        if (behind.contains(order)) {
            throw new Wrong(0);
        }
        List<Integer> more = new ArrayList<>(behind);
        more.add(order);
        int comes = time(0, s.orders.get(order)[0], s.orders.get(order)[1], s.water);
        for (int i = 0; i < s.orders.size(); i++) {
            Integer m = s.pairs.get(List.of(i, order));
            if (m != null) {
                comes = Math.max(comes, comes(i, more) + m);
            }
        }
        return comes;
    }

    int plan(int order) {
        if (order != -1) {
            index(order, 0, s.orders.size() - 1);
        }
        try {
            int span = 0;
            for (int i = 0; i < s.orders.size(); i++) {
                span = Math.max(span, comes(i, List.of()));
            }
            return order == -1 ? span
                : comes(order, List.of()) - time(0, s.orders.get(order)[0], s.orders.get(order)[1], s.water);
        } catch (Wrong w) {
            return -1;
        }
    }

    int chance(int from, int to) {
        index(from, 0, s.mill());
        index(to, 0, s.mill());
        range(to, from, s.mill());
        long c = 1000000000L;
        for (int i = from; i < to; i++) {
            c = Math.floorDiv(c * (100 - s.sticks.get(i)), 100);
        }
        return (int) c;
    }

    int repeats(int from, int to, int millionths) {
        long c = chance(from, to);
        range(millionths, 0, 1000000);
        long doubt = 1000000000L;
        int n = 0;
        while (doubt > millionths * 1000L && n < 100) {
            doubt = doubt * (1000000000L - c) / 1000000000L;
            n++;
        }
        return n == 100 ? -1 : n;
    }

    int fits(int k) {
        String told = useUp();
        if (!told.matches("[1-9]{1,6}") || k < -1) {
            throw new IllegalArgumentException();
        }
        TreeSet<String> all = new TreeSet<>();
        mix("", told, all);
        TreeSet<String> good = new TreeSet<>();
        for (String thrown : all) {
            Integer[] by = new Integer[thrown.length()];
            Arrays.setAll(by, i -> i);
            Arrays.sort(by, (i, j) -> millOf(thrown, i) - millOf(thrown, j));
            StringBuilder b = new StringBuilder();
            for (int i : by) {
                b.append(thrown.charAt(i));
            }
            if (b.toString().equals(told)) {
                good.add(thrown);
            }
        }
        if (k == -1) {
            return good.size();
        }
        return good.isEmpty() || k >= told.length() ? -1 : good.first().charAt(k) - '0';
    }

    private int millOf(String thrown, int i) {
        return i + time(0, s.mill(), thrown.charAt(i) - '0', s.water);
    }

    private static void mix(String done, String rest, TreeSet<String> all) {
        if (rest.isEmpty()) {
            all.add(done);
        }
        for (int i = 0; i < rest.length(); i++) {
            mix(done + rest.charAt(i), rest.substring(0, i) + rest.substring(i + 1), all);
        }
    }

    int test(int reaches) {
        List<Integer> some = new ArrayList<>();
        for (int i = 0; i < s.mill(); i++) {
            if ((reaches >> i & 1) == 1) {
                some.add(i);
            }
        }
        if (some.size() < 2) {
            return -1;
        }
        TreeMap<Integer, Integer> best = new TreeMap<>();
        for (int from = 0; from < s.mill(); from++) {
            for (int to = from + 1; to <= s.mill(); to++) {
                int f = from;
                int t = to;
                int in = (int) some.stream().filter(r -> r >= f && r < t).count();
                best.putIfAbsent(Math.max(in, some.size() - in), 16 * from + to);
            }
        }
        return best.firstEntry().getValue();
    }

    int later(int minutes, int what) {
        range(minutes, 0, 2000);
        element(what, 5);
        State t = s.copy();
        for (int i = 0; i < minutes; i++) {
            minute(t);
        }
        if (what == 3) {
            return t.camps.stream().mapToInt(c -> c[2]).sum();
        }
        String state = List.of("out", "taken", "sticks", "", "waits", "goes").get(what);
        return (int) t.chips.stream().filter(c -> c.state.equals(state)).count();
    }

    void image() {
        image = s.copy();
    }

    boolean back() {
        if (image != null) {
            s = image.copy();
        }
        return image != null;
    }

    int count(int what) {
        switch (what) {
            case 0: return s.mill() - 1;
            case 1: return s.texts;
            case 2: return s.chips.size();
            case 3: return s.outs.size();
            case 4: return s.clock;
            case 5: return s.water;
            case 6: return s.orders.size();
            case 7: return s.camps.stream().mapToInt(c -> c[3]).sum();
            case 8: return s.camps.stream().mapToInt(c -> c[2]).sum();
            case 9: return s.frost() ? 1 : 0;
            default: return -1;
        }
    }

    private static void index(int i, int least, int most) {
        if (i < least || i > most) {
            throw new IndexOutOfBoundsException();
        }
    }

    private static void range(int n, int least, int most) {
        if (n < least || n > most) {
            throw new IllegalArgumentException();
        }
    }

    private static void element(int what, int most) {
        if (what < 0 || what > most) {
            throw new NoSuchElementException();
        }
    }
}
