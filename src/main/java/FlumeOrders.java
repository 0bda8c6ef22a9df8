import java.util.NoSuchElementException;

/**
 * A forest that is run by chips of wood thrown into a flume. The document ../shared/DOC.md says what each call
 * answers. All rows are made once, by the constructor: a call makes nothing but the exception that it throws.
 */
public final class FlumeOrders {
    public static final int NONE = -1;

    private static final int MOST_CAMPS = 11;
    private static final int MOST_CHIPS = 60;
    private static final int MOST_ORDERS = 12;
    private static final int MOST_TEXTS = 10;
    private static final int MOST_LINES = 14;
    private static final int MOST_ACTS = 8;
    private static final int MOST_BYTES = 400;
    private static final int FED_BYTES = 20;
    private static final int MOST_DIGITS = 3;
    private static final int MOST_DEEP = 6;
    private static final int MOST_MINUTES = 2000;
    private static final int MOST_AHEAD = 999;
    private static final int MOST_REPEATS = 99;
    private static final int MOST_IN_ROW = 6;
    private static final int MOST_ORDERS_OF_ROW = 720;
    private static final int HEAVIEST = 9;
    private static final int HIGHEST_WATER = 9;
    private static final int MINUTES_OF_HOUR = 60;
    private static final int HOURS_OF_DAY = 24;
    private static final int BILLION = 1000000000;
    private static final int MILLION = 1000000;
    private static final int BLANK = 32;
    private static final int DIGIT_ZERO = 48;

    private static final int WAITS = 0;
    private static final int GOES = 1;
    private static final int STICKS = 2;
    private static final int TAKEN = 3;
    private static final int OUT = 4;

    /** Heads of notches that tell no camp; no chip ever comes to station 0, so it stands for all camps. */
    private static final int FOR_ALL = 0;
    private static final int FOR_MILL = -1;

    private final Tape tape = new Tape();
    private final Things things = new Things();
    private final Flow flow = new Flow();
    private final Row row = new Row();
    private final Forest now = new Forest();
    private final Forest kept = new Forest();
    /** Where texts are tried and days are looked at ahead, so that nothing of them stays. */
    private final Forest trial = new Forest();
    private boolean isKept;

    /** The fields begin as an office and a mill. */
    public FlumeOrders() {
    }

    public int feed(int a, int b, int c, int d, int e) {
        if (tape.size > MOST_BYTES - FED_BYTES) {
            return NONE;
        }
        tape.add(a);
        tape.add(b);
        tape.add(c);
        tape.add(d);
        tape.add(e);
        return tape.size;
    }

    public boolean end(int n) {
        if (n < 0 || n > tape.size) {
            return false;
        }
        tape.size = n;
        return true;
    }

    public int forest() throws IllegalArgumentException, UnsupportedOperationException {
        things.open(tape.bytes, tape.useUp());
        trial.copyFrom(now);
        trial.read(things);
        if (things.isWrong()) {
            throw new IllegalArgumentException();
        }
        if (now.textCount >= MOST_TEXTS) {
            throw new UnsupportedOperationException();
        }
        trial.textCount++;
        now.copyFrom(trial);
        return now.textCount;
    }

    public int chip(int station, int weight)
            throws IndexOutOfBoundsException, IllegalArgumentException, UnsupportedOperationException {
        int length = tape.useUp();
        if (station < 0 || station > now.campCount) {
            throw new IndexOutOfBoundsException();
        }
        demandWeight(weight);
        things.open(tape.bytes, length);
        Notches notches = flow.written[now.chipCount];
        notches.read(things);
        if (things.isWrong()) {
            throw new IllegalArgumentException();
        }
        if (now.chipCount >= MOST_CHIPS) {
            throw new UnsupportedOperationException();
        }
        return now.throwChip(station, weight, notches.head, NONE);
    }

    public int fault() {
        return things.fault;
    }

    public int run(int minutes) throws IllegalArgumentException {
        if (minutes < 1 || minutes > MOST_MINUTES) {
            throw new IllegalArgumentException();
        }
        int before = now.outCount;
        flow.pass(now, minutes);
        return now.outCount - before;
    }

    public int pole(int reach) throws IndexOutOfBoundsException {
        demandReach(reach);
        return now.free(reach);
    }

    public int water(int n) throws IllegalArgumentException {
        demandWater(n);
        int before = now.water;
        now.water = n;
        return before;
    }

    public int look(int chip, int what) throws IndexOutOfBoundsException, NoSuchElementException {
        if (chip < 0 || chip >= now.chipCount) {
            throw new IndexOutOfBoundsException();
        }
        Chip seen = now.chips[chip];
        switch (what) {
            case 0:
                return seen.state;
            case 1:
                return seen.place;
            case 2:
                return seen.toGo;
            case 3:
                return seen.weight;
            case 4:
                return seen.came;
            case 5:
                return seen.told;
            default:
                throw new NoSuchElementException();
        }
    }

    public int camp(int camp, int what) throws IndexOutOfBoundsException, NoSuchElementException {
        demandCamp(camp);
        Camp seen = now.camps[camp];
        switch (what) {
            case 0:
                return seen.trees;
            case 1:
                return seen.logs;
            case 2:
                return seen.sent;
            case 3:
                return seen.late;
            default:
                throw new NoSuchElementException();
        }
    }

    public int reach(int reach, int what) throws IndexOutOfBoundsException, NoSuchElementException {
        demandReach(reach);
        Reach seen = now.reaches[reach];
        switch (what) {
            case 0:
                return seen.length;
            case 1:
                return seen.stick;
            case 2:
                return seen.bend;
            case 3:
                return seen.inside;
            default:
                throw new NoSuchElementException();
        }
    }

    public int out(int k) {
        return k >= 0 && k < now.outCount ? now.outs[k] : NONE;
    }

    public int time(int from, int to, int weight, int water)
            throws IndexOutOfBoundsException, IllegalArgumentException {
        demandWay(from, to);
        demandWeight(weight);
        demandWater(water);
        return minutesFor(now.lengthBetween(from, to), weight, water);
    }

    public int waits(int to, int first, int second, int least, int greatest)
            throws IndexOutOfBoundsException, IllegalArgumentException {
        demandStation(to);
        demandWeight(first);
        demandWeight(second);
        demandWater(least);
        demandWater(greatest);
        if (least > greatest) {
            throw new IllegalArgumentException();
        }
        int length = now.lengthBetween(0, to);
        int wait = 0;
        for (int water = least; water <= greatest; water++) {
            int behind = minutesFor(length, first, water) - minutesFor(length, second, water);
            wait = Math.max(wait, behind + 1);
        }
        return wait;
    }

    public int order(int camp, int weight)
            throws IndexOutOfBoundsException, IllegalArgumentException, UnsupportedOperationException {
        demandCamp(camp);
        demandWeight(weight);
        if (now.orders.size >= MOST_ORDERS) {
            throw new UnsupportedOperationException();
        }
        return now.orders.add(camp, weight);
    }

    public int ahead(int first, int second, int minutes)
            throws IndexOutOfBoundsException, IllegalArgumentException {
        demandOrder(first);
        demandOrder(second);
        if (first == second || minutes < 0 || minutes > MOST_AHEAD) {
            throw new IllegalArgumentException();
        }
        int before = now.orders.ahead[first][second];
        now.orders.ahead[first][second] = minutes;
        return before;
    }

    public int plan(int order) throws IndexOutOfBoundsException {
        if (order != NONE) {
            demandOrder(order);
        }
        if (!now.orders.settle(now)) {
            return NONE;
        }
        return order == NONE ? now.orders.span() : now.orders.starts[order];
    }

    public int chance(int from, int to) throws IndexOutOfBoundsException, IllegalArgumentException {
        demandWay(from, to);
        return now.billionths(from, to);
    }

    public int repeats(int from, int to, int millionths)
            throws IndexOutOfBoundsException, IllegalArgumentException {
        demandWay(from, to);
        if (millionths < 0 || millionths > MILLION) {
            throw new IllegalArgumentException();
        }
        long most = millionths * 1000L;
        long fails = BILLION - now.billionths(from, to);
        long doubt = BILLION;
        for (int repeats = 0; repeats <= MOST_REPEATS; repeats++) {
            if (doubt <= most) {
                return repeats;
            }
            doubt = doubt * fails / BILLION;
        }
        return NONE;
    }

    public int fits(int k) throws IllegalArgumentException {
        boolean isRow = row.read(tape);
        if (!isRow || k < NONE) {
            throw new IllegalArgumentException();
        }
        row.tryAll(now.lengthBetween(0, now.campCount + 1), now.water);
        if (k == NONE) {
            return row.found;
        }
        return row.found > 0 && k < row.size ? row.first[k] : NONE;
    }

    public int test(int reaches) {
        int suspects = reaches & ((1 << (now.campCount + 1)) - 1);
        int all = Integer.bitCount(suspects);
        if (all < 2) {
            return NONE;
        }
        int best = NONE;
        int fewest = all;
        for (int from = 0; from <= now.campCount; from++) {
            for (int to = from + 1; to <= now.campCount + 1; to++) {
                int between = Integer.bitCount(suspects & ((1 << to) - (1 << from)));
                int left = Math.max(between, all - between);
                if (left < fewest) {
                    fewest = left;
                    best = 16 * from + to;
                }
            }
        }
        return best;
    }

    public int later(int minutes, int what) throws IllegalArgumentException, NoSuchElementException {
        if (minutes < 0 || minutes > MOST_MINUTES) {
            throw new IllegalArgumentException();
        }
        if (what < 0 || what > 5) {
            throw new NoSuchElementException();
        }
        trial.copyFrom(now);
        flow.pass(trial, minutes);
        switch (what) {
            case 0:
                return trial.outCount;
            case 1:
                return trial.chipsThat(TAKEN);
            case 2:
                return trial.chipsThat(STICKS);
            case 3:
                return trial.allSent();
            case 4:
                return trial.chipsThat(WAITS);
            default:
                return trial.chipsThat(GOES);
        }
    }

    public void image() {
        kept.copyFrom(now);
        isKept = true;
    }

    public boolean back() {
        if (isKept) {
            now.copyFrom(kept);
        }
        return isKept;
    }

    public int count(int what) {
        switch (what) {
            case 0:
                return now.campCount;
            case 1:
                return now.textCount;
            case 2:
                return now.chipCount;
            case 3:
                return now.outCount;
            case 4:
                return now.clock;
            case 5:
                return now.water;
            case 6:
                return now.orders.size;
            case 7:
                return now.allLate();
            case 8:
                return now.allSent();
            case 9:
                return now.hasFrost() ? 1 : 0;
            default:
                return NONE;
        }
    }

    private void demandStation(int station) {
        if (station < 0 || station > now.campCount + 1) {
            throw new IndexOutOfBoundsException();
        }
    }

    private void demandReach(int reach) {
        if (reach < 0 || reach > now.campCount) {
            throw new IndexOutOfBoundsException();
        }
    }

    private void demandCamp(int camp) {
        if (camp < 1 || camp > now.campCount) {
            throw new IndexOutOfBoundsException();
        }
    }

    private void demandOrder(int order) {
        if (order < 0 || order >= now.orders.size) {
            throw new IndexOutOfBoundsException();
        }
    }

    private void demandWay(int from, int to) {
        demandStation(from);
        demandStation(to);
        if (to < from) {
            throw new IllegalArgumentException();
        }
    }

    private static void demandWeight(int weight) {
        if (weight < 1 || weight > HEAVIEST) {
            throw new IllegalArgumentException();
        }
    }

    private static void demandWater(int water) {
        if (water < 1 || water > HIGHEST_WATER) {
            throw new IllegalArgumentException();
        }
    }

    private static int minutesFor(int length, int weight, int water) {
        return length * (weight + 10 - water);
    }

    /** The words and signs of both kinds of text, and what a thing may be that has no spelling of its own. */
    private enum Word {
        CAMP("camp"),
        REACH("reach"),
        STICK("stick"),
        BEND("bend"),
        SEED("seed"),
        TO("to"),
        ALL("all"),
        MILL("mill"),
        CUT("cut"),
        SEND("send"),
        ANSWER("answer"),
        VOID("void"),
        IF("if"),
        NOT("not"),
        FROST("frost"),
        SEMICOLON(";"),
        OPEN("("),
        CLOSE(")"),
        TREES("trees", true, false),
        LOGS("logs", true, false),
        SENT("sent", true, false),
        WATER("water", true, false),
        HOUR("hour", true, false),
        WEIGHT("weight", true, false),
        OR("or", false, true),
        AND("and", false, true),
        PLUS("+", false, true),
        LESS("<", false, true),
        MORE(">", false, true),
        NUMBER("", true, false),
        UNKNOWN("");

        private static final Word[] LIST = values();

        final String spelling;
        /** Whether it can be a part of a sum. */
        final boolean isPart;
        /** Whether it makes one value out of two. */
        final boolean isJoin;

        Word(String spelling) {
            this(spelling, false, false);
        }

        Word(String spelling, boolean isPart, boolean isJoin) {
            this.spelling = spelling;
            this.isPart = isPart;
            this.isJoin = isJoin;
        }

        static Word of(int[] bytes, int begin, int behind) {
            for (int i = 0; i < LIST.length; i++) {
                if (LIST[i].isSpelled(bytes, begin, behind)) {
                    return LIST[i];
                }
            }
            return UNKNOWN;
        }

        private boolean isSpelled(int[] bytes, int begin, int behind) {
            if (begin < 0 || behind > bytes.length || behind - begin != spelling.length()) {
                return false;
            }
            for (int i = 0; i < spelling.length(); i++) {
                if (bytes[begin + i] != spelling.charAt(i)) {
                    return false;
                }
            }
            return true;
        }
    }

    private static final class Tape {
        final int[] bytes = new int[MOST_BYTES];
        int size;

        void add(int number) {
            for (int shift = 24; shift >= 0 && size < bytes.length; shift -= 8) {
                bytes[size] = (number >>> shift) & 255;
                size++;
            }
        }

        /** The bytes stay readable until the next feed. */
        int useUp() {
            int length = size;
            size = 0;
            return length;
        }
    }

    /** A text as a row of things: words, numbers and signs. The first refusal tells the first wrong byte. */
    private static final class Things {
        private final Word[] words = new Word[MOST_BYTES];
        private final int[] begins = new int[MOST_BYTES];
        private final int[] numbers = new int[MOST_BYTES];
        private int size;
        private int at;
        private int length;
        /** Of the part that was taken last. */
        int number;
        int fault = NONE;

        void open(int[] bytes, int bytesOfText) {
            length = Math.min(bytesOfText, bytes.length);
            size = 0;
            at = 0;
            fault = NONE;
            int begin = 0;
            for (int runs = 0; runs < MOST_BYTES && begin < length; runs++) {
                int behind = behindRun(bytes, begin);
                if (bytes[begin] != BLANK) {
                    add(bytes, begin, behind);
                }
                begin = behind;
            }
        }

        private void add(int[] bytes, int begin, int behind) {
            if (size >= MOST_BYTES) {
                return;
            }
            begins[size] = begin;
            if (isDigit(bytes[begin])) {
                boolean isShort = behind - begin <= MOST_DIGITS;
                words[size] = isShort ? Word.NUMBER : Word.UNKNOWN;
                numbers[size] = isShort ? valueOf(bytes, begin, behind) : 0;
            } else {
                words[size] = Word.of(bytes, begin, behind);
                numbers[size] = 0;
            }
            size++;
        }

        /** Only letters and digits go on. */
        private int behindRun(int[] bytes, int begin) {
            int behind = begin + 1;
            if (isLetter(bytes[begin])) {
                while (behind < length && isLetter(bytes[behind])) {
                    behind++;
                }
            } else if (isDigit(bytes[begin])) {
                while (behind < length && isDigit(bytes[behind])) {
                    behind++;
                }
            }
            return behind;
        }

        private static int valueOf(int[] bytes, int begin, int behind) {
            int value = 0;
            for (int i = begin; i < behind; i++) {
                value = 10 * value + bytes[i] - DIGIT_ZERO;
            }
            return value;
        }

        private static boolean isLetter(int sign) {
            return sign >= 'a' && sign <= 'z';
        }

        private static boolean isDigit(int sign) {
            return sign >= '0' && sign <= '9';
        }

        boolean isWrong() {
            return fault != NONE;
        }

        boolean isAtEnd() {
            return at >= size;
        }

        /** What comes next cannot stand there; at the end of the text, more must come. */
        void refuse() {
            if (fault == NONE) {
                fault = at < size ? begins[at] : length;
            }
        }

        /** After a refusal nothing is taken any more. */
        boolean take(Word word) {
            if (fault == NONE && at < size && words[at] == word) {
                at++;
                return true;
            }
            return false;
        }

        void demand(Word word) {
            if (!take(word)) {
                refuse();
            }
        }

        int takeNumber(int least, int most) {
            if (fault == NONE && at < size && words[at] == Word.NUMBER
                    && numbers[at] >= least && numbers[at] <= most) {
                at++;
                return numbers[at - 1];
            }
            refuse();
            return least;
        }

        /** UNKNOWN if no part of a sum comes next. */
        Word takePart() {
            if (fault == NONE && at < size && words[at].isPart) {
                number = numbers[at];
                at++;
                return words[at - 1];
            }
            return Word.UNKNOWN;
        }
    }

    /**
     * What is cut into a chip: for whom it is, its acts, and their questions as steps, the operands ahead of what
     * joins them.
     */
    private static final class Notches {
        final Word[] kinds = new Word[MOST_ACTS];
        final int[] amounts = new int[MOST_ACTS];
        /** Where the question of an act begins; it ends where that of the next one begins. */
        final int[] questions = new int[MOST_ACTS];
        /** A step takes at least one byte of the text, so there are never more of them. */
        final Word[] steps = new Word[MOST_BYTES];
        final int[] numbers = new int[MOST_BYTES];
        int head;
        int acts;
        int size;

        void read(Things things) {
            acts = 0;
            size = 0;
            readHead(things);
            for (int more = 0; more < MOST_ACTS && things.take(Word.SEMICOLON); more++) {
                readAct(things);
            }
            // Of an act too many its first word is wrong, not the semicolon ahead of it.
            if (things.take(Word.SEMICOLON) || !things.isAtEnd()) {
                things.refuse();
            }
        }

        private void readHead(Things things) {
            if (things.take(Word.TO)) {
                head = things.takeNumber(1, MOST_CAMPS);
            } else if (things.take(Word.ALL)) {
                head = FOR_ALL;
            } else {
                things.demand(Word.MILL);
                head = FOR_MILL;
            }
        }

        private void readAct(Things things) {
            if (things.take(Word.VOID)) {
                addAct(Word.VOID, things.takeNumber(0, MOST_CHIPS - 1));
                return;
            }
            if (things.take(Word.CUT)) {
                addAct(Word.CUT, things.takeNumber(1, 999));
            } else if (things.take(Word.SEND)) {
                addAct(Word.SEND, things.takeNumber(1, 999));
            } else {
                things.demand(Word.ANSWER);
                addAct(Word.ANSWER, 0);
            }
            if (things.take(Word.IF)) {
                question(things, 0);
            }
        }

        private void question(Things things, int depth) {
            allOf(things, depth);
            for (int more = 0; more < MOST_BYTES && things.take(Word.OR); more++) {
                allOf(things, depth);
                addStep(Word.OR, 0);
            }
        }

        private void allOf(Things things, int depth) {
            atom(things, depth);
            for (int more = 0; more < MOST_BYTES && things.take(Word.AND); more++) {
                atom(things, depth);
                addStep(Word.AND, 0);
            }
        }

        /** One that would be too deep is taken for no atom at all, and so it is refused where it begins. */
        private void atom(Things things, int depth) {
            boolean mayGoDeeper = depth < MOST_DEEP;
            if (mayGoDeeper && things.take(Word.NOT)) {
                atom(things, depth + 1);
                addStep(Word.NOT, 0);
            } else if (mayGoDeeper && things.take(Word.OPEN)) {
                question(things, depth + 1);
                things.demand(Word.CLOSE);
            } else if (things.take(Word.FROST)) {
                addStep(Word.FROST, 0);
            } else {
                sum(things);
                boolean isLess = things.take(Word.LESS);
                if (!isLess) {
                    things.demand(Word.MORE);
                }
                sum(things);
                addStep(isLess ? Word.LESS : Word.MORE, 0);
            }
        }

        private void sum(Things things) {
            int parts = 0;
            do {
                Word part = things.takePart();
                if (part == Word.UNKNOWN) {
                    things.refuse();
                    return;
                }
                addStep(part, things.number);
                if (parts > 0) {
                    addStep(Word.PLUS, 0);
                }
                parts++;
            } while (parts < MOST_BYTES && things.take(Word.PLUS));
        }

        private void addAct(Word kind, int amount) {
            if (acts < MOST_ACTS) {
                kinds[acts] = kind;
                amounts[acts] = amount;
                questions[acts] = size;
                acts++;
            }
        }

        private void addStep(Word step, int number) {
            if (size < MOST_BYTES) {
                steps[size] = step;
                numbers[size] = number;
                size++;
            }
        }

        int behindQuestion(int act) {
            return act + 1 < acts && act + 1 < MOST_ACTS ? questions[act + 1] : size;
        }
    }

    private static final class Chip {
        int state;
        /** Its station, or its reach. */
        int place;
        int toGo;
        int weight;
        /** The minute in which it came to its place. */
        int came;
        /** The number that an answer tells. */
        int told;
        int head;

        void copyFrom(Chip other) {
            state = other.state;
            place = other.place;
            toGo = other.toGo;
            weight = other.weight;
            came = other.came;
            told = other.told;
            head = other.head;
        }
    }

    private static final class Camp {
        int trees;
        int logs;
        int sent;
        int late;
        /** Bits by the numbers of chips. */
        long voided;
        long done;

        void begin(int firstTrees) {
            trees = firstTrees;
            logs = 0;
            sent = 0;
            late = 0;
            voided = 0;
            done = 0;
        }

        void cut(int most) {
            int felled = Math.min(most, trees);
            trees -= felled;
            logs += felled;
        }

        void send(int most) {
            int gone = Math.min(most, logs);
            logs -= gone;
            sent += gone;
        }

        void annul(int chip, int by) {
            long bit = 1L << chip;
            voided |= bit;
            if (chip != by && (done & bit) != 0) {
                late++;
            }
        }

        void copyFrom(Camp other) {
            trees = other.trees;
            logs = other.logs;
            sent = other.sent;
            late = other.late;
            voided = other.voided;
            done = other.done;
        }
    }

    private static final class Reach {
        int length = 10;
        int stick;
        int bend;
        /** The chips in it, also those that stick. */
        int inside;

        boolean hasRoom() {
            return bend == 0 || inside < bend;
        }

        void copyFrom(Reach other) {
            length = other.length;
            stick = other.stick;
            bend = other.bend;
            inside = other.inside;
        }
    }

    private static final class Orders {
        final int[] camps = new int[MOST_ORDERS];
        final int[] weights = new int[MOST_ORDERS];
        /** By how many minutes the first must come ahead of the second; 0 without such a pair. */
        final int[][] ahead = new int[MOST_ORDERS][MOST_ORDERS];
        int size;
        /** Worked out anew by settle. */
        final int[] starts = new int[MOST_ORDERS];
        final int[] ways = new int[MOST_ORDERS];

        int add(int camp, int weight) {
            if (size >= MOST_ORDERS) {
                return NONE;
            }
            camps[size] = camp;
            weights[size] = weight;
            size++;
            return size - 1;
        }

        /** Each round carries a delay one pair further; if rounds never rest, pairs go round in a ring. */
        boolean settle(Forest forest) {
            for (int i = 0; i < size; i++) {
                starts[i] = 0;
                ways[i] = minutesFor(forest.lengthBetween(0, camps[i]), weights[i], forest.water);
            }
            for (int round = 0; round <= size; round++) {
                if (!delaySome()) {
                    return true;
                }
            }
            return false;
        }

        private boolean delaySome() {
            boolean isDelayed = false;
            for (int i = 0; i < size; i++) {
                for (int j = 0; j < size; j++) {
                    int least = starts[i] + ways[i] + ahead[i][j] - ways[j];
                    if (ahead[i][j] > 0 && starts[j] < least) {
                        starts[j] = least;
                        isDelayed = true;
                    }
                }
            }
            return isDelayed;
        }

        int span() {
            int last = 0;
            for (int i = 0; i < size; i++) {
                last = Math.max(last, starts[i] + ways[i]);
            }
            return last;
        }

        void copyFrom(Orders other) {
            size = other.size;
            for (int i = 0; i < MOST_ORDERS; i++) {
                camps[i] = other.camps[i];
                weights[i] = other.weights[i];
                for (int j = 0; j < MOST_ORDERS; j++) {
                    ahead[i][j] = other.ahead[i][j];
                }
            }
        }
    }

    /**
     * All that the image keeps. What is cut into the chips stands in the flow alone: the notches of a number change
     * only when one goes back to an image that has no such chip.
     */
    private static final class Forest {
        /** From 1 on, as the document numbers them. */
        final Camp[] camps = new Camp[MOST_CAMPS + 1];
        final Reach[] reaches = new Reach[MOST_CAMPS + 1];
        final Chip[] chips = new Chip[MOST_CHIPS];
        final int[] outs = new int[MOST_CHIPS];
        final Orders orders = new Orders();
        int campCount;
        int chipCount;
        int outCount;
        int textCount;
        int water = 5;
        int frostFrom;
        int frostTo;
        int clock;
        int seed = 1;

        Forest() {
            for (int i = 0; i < camps.length; i++) {
                camps[i] = new Camp();
                reaches[i] = new Reach();
            }
            for (int i = 0; i < chips.length; i++) {
                chips[i] = new Chip();
            }
        }

        void copyFrom(Forest other) {
            campCount = other.campCount;
            chipCount = other.chipCount;
            outCount = other.outCount;
            textCount = other.textCount;
            water = other.water;
            frostFrom = other.frostFrom;
            frostTo = other.frostTo;
            clock = other.clock;
            seed = other.seed;
            orders.copyFrom(other.orders);
            for (int i = 0; i <= campCount && i < camps.length; i++) {
                camps[i].copyFrom(other.camps[i]);
                reaches[i].copyFrom(other.reaches[i]);
            }
            for (int i = 0; i < chipCount && i < chips.length; i++) {
                chips[i].copyFrom(other.chips[i]);
                outs[i] = other.outs[i];
            }
        }

        /** Does what the lines of a text say; of a text that turns out to be wrong, a part may be done then. */
        void read(Things things) {
            if (things.isAtEnd()) {
                return;
            }
            readLine(things);
            for (int lines = 1; lines < MOST_LINES && things.take(Word.SEMICOLON); lines++) {
                readLine(things);
            }
            // Of a line too many its first word is wrong, not the semicolon ahead of it.
            if (things.take(Word.SEMICOLON) || !things.isAtEnd()) {
                things.refuse();
            }
        }

        private void readLine(Things things) {
            if (mayGrow() && things.take(Word.CAMP)) {
                readCamp(things);
            } else if (things.take(Word.REACH)) {
                readReach(things);
            } else if (things.take(Word.WATER)) {
                water = things.takeNumber(1, HIGHEST_WATER);
            } else if (things.take(Word.FROST)) {
                frostFrom = things.takeNumber(0, HOURS_OF_DAY - 1);
                frostTo = things.takeNumber(0, HOURS_OF_DAY - 1);
            } else if (things.take(Word.SEED)) {
                seed = things.takeNumber(0, 999);
            } else {
                things.refuse();
            }
        }

        private void readCamp(Things things) {
            int length = things.takeNumber(1, 20);
            int trees = things.takeNumber(0, 999);
            if (!things.isWrong()) {
                addCamp(length, trees);
            }
        }

        private void readReach(Things things) {
            int reach = things.takeNumber(0, campCount);
            int length = things.takeNumber(1, 20);
            int stick = things.take(Word.STICK) ? things.takeNumber(0, 99) : 0;
            int bend = things.take(Word.BEND) ? things.takeNumber(0, 9) : 0;
            if (!things.isWrong()) {
                setReach(reach, length, stick, bend);
            }
        }

        private boolean mayGrow() {
            return campCount < MOST_CAMPS && chipCount == 0;
        }

        private void addCamp(int length, int trees) {
            if (campCount < MOST_CAMPS) {
                campCount++;
                camps[campCount].begin(trees);
                reaches[campCount].inside = 0;
                setReach(campCount, length, 0, 0);
            }
        }

        private void setReach(int number, int length, int stick, int bend) {
            if (number >= 0 && number < reaches.length) {
                Reach reach = reaches[number];
                reach.length = length;
                reach.stick = stick;
                reach.bend = bend;
            }
        }

        int throwChip(int station, int weight, int head, int told) {
            if (chipCount >= MOST_CHIPS) {
                return NONE;
            }
            Chip chip = chips[chipCount];
            chip.state = WAITS;
            chip.place = station;
            chip.toGo = 0;
            chip.weight = weight;
            chip.came = clock;
            chip.told = told;
            chip.head = head;
            chipCount++;
            return chipCount - 1;
        }

        int free(int reach) {
            int freed = 0;
            for (int i = 0; i < chipCount; i++) {
                if (chips[i].state == STICKS && chips[i].place == reach) {
                    chips[i].state = GOES;
                    freed++;
                }
            }
            return freed;
        }

        int hour() {
            return clock / MINUTES_OF_HOUR % HOURS_OF_DAY;
        }

        boolean hasFrost() {
            return isFrostyAt(hour());
        }

        boolean isFrostyAt(int hour) {
            if (frostFrom <= frostTo) {
                return hour >= frostFrom && hour < frostTo;
            }
            return hour >= frostFrom || hour < frostTo;
        }

        int lengthBetween(int from, int to) {
            int length = 0;
            for (int i = Math.max(from, 0); i < to && i < reaches.length; i++) {
                length += reaches[i].length;
            }
            return length;
        }

        int billionths(int from, int to) {
            long left = BILLION;
            for (int i = Math.max(from, 0); i < to && i < reaches.length; i++) {
                left = left * (100 - reaches[i].stick) / 100;
            }
            return (int) left;
        }

        int chipsThat(int state) {
            int found = 0;
            for (int i = 0; i < chipCount; i++) {
                if (chips[i].state == state) {
                    found++;
                }
            }
            return found;
        }

        int allSent() {
            int sum = 0;
            for (int i = 1; i <= campCount; i++) {
                sum += camps[i].sent;
            }
            return sum;
        }

        int allLate() {
            int sum = 0;
            for (int i = 1; i <= campCount; i++) {
                sum += camps[i].late;
            }
            return sum;
        }
    }

    /** What happens in the minutes. */
    private static final class Flow {
        /** By the chip's number. The last one is for a text that is read and refused because there are 60 chips. */
        final Notches[] written = new Notches[MOST_CHIPS + 1];
        /** A question holds at most two values a level, and three in its innermost sum. */
        private final int[] stack = new int[4 * MOST_DEEP + 8];

        Flow() {
            for (int number = 0; number < written.length; number++) {
                written[number] = new Notches();
            }
        }

        void pass(Forest forest, int minutes) {
            int left = minutes;
            for (int turn = 0; turn < minutes && left > 0; turn++) {
                if (!forest.hasFrost()) {
                    minute(forest);
                    left--;
                }
                left -= passStill(forest, left);
            }
        }

        private void minute(Forest forest) {
            int before = forest.chipCount;
            for (int i = 0; i < before; i++) {
                if (forest.chips[i].state == GOES) {
                    forest.chips[i].toGo--;
                }
            }
            for (int i = 0; i < before; i++) {
                if (forest.chips[i].state == GOES && forest.chips[i].toGo <= 0) {
                    come(forest, i);
                }
            }
            for (int reach = forest.campCount; reach >= 0; reach--) {
                enter(forest, reach);
            }
            forest.clock++;
        }

        /**
         * After a minute all that wait are held back by a bend, until one comes out of it: till then, and in frost,
         * nothing but time changes. Hours are not passed over, as frost begins and ends with them.
         */
        private int passStill(Forest forest, int most) {
            int still = Math.min(most, MINUTES_OF_HOUR - forest.clock % MINUTES_OF_HOUR);
            if (!forest.hasFrost()) {
                for (int i = 0; i < forest.chipCount; i++) {
                    if (forest.chips[i].state == GOES) {
                        still = Math.min(still, forest.chips[i].toGo - 1);
                    }
                }
                for (int i = 0; i < forest.chipCount; i++) {
                    if (forest.chips[i].state == GOES) {
                        forest.chips[i].toGo -= still;
                    }
                }
            }
            forest.clock += still;
            return still;
        }

        private void come(Forest forest, int number) {
            Chip chip = forest.chips[number];
            if (chip.place < 0 || chip.place > forest.campCount) {
                return;
            }
            forest.reaches[chip.place].inside--;
            chip.place++;
            chip.came = forest.clock;
            chip.toGo = 0;
            if (chip.place > forest.campCount) {
                chip.state = OUT;
                if (forest.outCount < MOST_CHIPS) {
                    forest.outs[forest.outCount] = number;
                    forest.outCount++;
                }
                return;
            }
            chip.state = chip.head == chip.place ? TAKEN : WAITS;
            if (chip.head == chip.place || chip.head == FOR_ALL) {
                doActs(forest, number);
            }
        }

        private void doActs(Forest forest, int number) {
            Chip chip = forest.chips[number];
            Camp camp = forest.camps[chip.place];
            Notches notches = written[number];
            if ((camp.voided & (1L << number)) != 0) {
                return;
            }
            for (int act = 0; act < notches.acts && act < MOST_ACTS; act++) {
                if (!holds(forest, chip, notches, act)) {
                    continue;
                }
                Word kind = notches.kinds[act];
                if (kind == Word.CUT) {
                    camp.cut(notches.amounts[act]);
                } else if (kind == Word.SEND) {
                    camp.send(notches.amounts[act]);
                } else if (kind == Word.ANSWER) {
                    forest.throwChip(chip.place, 1, FOR_MILL, camp.logs);
                } else {
                    camp.annul(notches.amounts[act], number);
                }
            }
            camp.done |= 1L << number;
        }

        /** An act without a question has no steps, and holds. */
        private boolean holds(Forest forest, Chip chip, Notches notches, int act) {
            int behind = notches.behindQuestion(act);
            int height = 0;
            for (int i = notches.questions[act]; i < behind; i++) {
                Word step = notches.steps[i];
                if (step == Word.NOT && height >= 1) {
                    stack[height - 1] = 1 - stack[height - 1];
                } else if (step.isJoin && height >= 2) {
                    height--;
                    stack[height - 1] = join(step, stack[height - 1], stack[height]);
                } else if (height < stack.length) {
                    stack[height] = step == Word.NUMBER ? notches.numbers[i] : valueOf(step, forest, chip);
                    height++;
                }
            }
            return height == 0 || stack[0] != 0;
        }

        private static int valueOf(Word step, Forest forest, Chip chip) {
            Camp camp = forest.camps[chip.place];
            switch (step) {
                case TREES:
                    return camp.trees;
                case LOGS:
                    return camp.logs;
                case SENT:
                    return camp.sent;
                case WATER:
                    return forest.water;
                case HOUR:
                    return forest.hour();
                case WEIGHT:
                    return chip.weight;
                default:
                    return forest.isFrostyAt(forest.hour()) ? 1 : 0;
            }
        }

        private static int join(Word step, int left, int right) {
            switch (step) {
                case PLUS:
                    return left + right;
                case AND:
                    return left & right;
                case OR:
                    return left | right;
                case LESS:
                    return left < right ? 1 : 0;
                default:
                    return left > right ? 1 : 0;
            }
        }

        private void enter(Forest forest, int number) {
            Reach reach = forest.reaches[number];
            int next = firstWaiting(forest, number);
            for (int i = 0; i < MOST_CHIPS && next != NONE && reach.hasRoom(); i++) {
                Chip chip = forest.chips[next];
                chip.state = reach.stick > 0 && drawBelow(forest, reach.stick) ? STICKS : GOES;
                chip.toGo = minutesFor(reach.length, chip.weight, forest.water);
                chip.came = forest.clock;
                reach.inside++;
                next = firstWaiting(forest, number);
            }
        }

        /** By when they came there, then by numbers. */
        private static int firstWaiting(Forest forest, int station) {
            int first = NONE;
            for (int i = 0; i < forest.chipCount; i++) {
                Chip chip = forest.chips[i];
                if (chip.state == WAITS && chip.place == station
                        && (first == NONE || chip.came < forest.chips[first].came)) {
                    first = i;
                }
            }
            return first;
        }

        private static boolean drawBelow(Forest forest, int stick) {
            forest.seed = 1103515245 * forest.seed + 12345;
            return ((forest.seed >>> 16) & 32767) % 100 < stick;
        }
    }

    /** Chips by their weights, as they came to the mill, and the orders in which they can have been thrown. */
    private static final class Row {
        private final int[] told = new int[MOST_IN_ROW];
        private final int[] thrown = new int[MOST_IN_ROW];
        private final int[] comes = new int[MOST_IN_ROW];
        final int[] first = new int[MOST_IN_ROW];
        int size;
        int found;

        boolean read(Tape tape) {
            size = 0;
            int length = tape.useUp();
            if (length < 1 || length > MOST_IN_ROW) {
                return false;
            }
            for (int i = 0; i < length; i++) {
                told[i] = tape.bytes[i] - DIGIT_ZERO;
                if (told[i] < 1 || told[i] > HEAVIEST) {
                    return false;
                }
            }
            size = length;
            return true;
        }

        /** Goes through the orders by weights, so that those of one weight are not told apart. */
        void tryAll(int length, int water) {
            found = 0;
            sortTold();
            boolean isMore = true;
            for (int i = 0; i < MOST_ORDERS_OF_ROW && isMore; i++) {
                if (comesAsTold(length, water)) {
                    if (found == 0) {
                        System.arraycopy(thrown, 0, first, 0, size);
                    }
                    found++;
                }
                isMore = goToNext();
            }
        }

        private void sortTold() {
            for (int i = 0; i < size; i++) {
                int place = i;
                while (place > 0 && thrown[place - 1] > told[i]) {
                    thrown[place] = thrown[place - 1];
                    place--;
                }
                thrown[place] = told[i];
            }
        }

        private boolean comesAsTold(int length, int water) {
            for (int i = 0; i < size; i++) {
                comes[i] = i + minutesFor(length, thrown[i], water);
            }
            int gone = 0;
            for (int place = 0; place < size; place++) {
                int next = NONE;
                for (int i = 0; i < size; i++) {
                    if ((gone & (1 << i)) == 0 && (next == NONE || comes[i] < comes[next])) {
                        next = i;
                    }
                }
                if (next == NONE || thrown[next] != told[place]) {
                    return false;
                }
                gone |= 1 << next;
            }
            return true;
        }

        /** The next order by weights: the last place that can grow does so by the least, all behind it rises. */
        private boolean goToNext() {
            int grows = size - 2;
            while (grows >= 0 && thrown[grows] >= thrown[grows + 1]) {
                grows--;
            }
            if (grows < 0) {
                return false;
            }
            int larger = size - 1;
            while (larger > grows + 1 && thrown[larger] <= thrown[grows]) {
                larger--;
            }
            swap(grows, larger);
            for (int i = grows + 1, j = size - 1; i < j; i++, j--) {
                swap(i, j);
            }
            return true;
        }

        private void swap(int i, int j) {
            int weight = thrown[i];
            thrown[i] = thrown[j];
            thrown[j] = weight;
        }
    }
}
