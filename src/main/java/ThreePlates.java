import java.util.Arrays;

/** Three plates make a flat: a shop of plates that are laid on one another and scraped. */
public final class ThreePlates {
    public static final int NONE = -1;

    private static final int NO_SUCH = -100000;
    private static final int SPENT = -2;
    private static final int TOO_LONG = -2;
    private static final int MOST_BYTES = 1200;
    private static final int MOST_ORDER_BYTES = 500;
    private static final int BYTES_FED = 20;
    private static final int MOST_PLATES = 4;
    private static final int MOST_CELLS = 25;
    private static final int MOST_ROUNDS = 10;
    private static final int MOST_RUN = 300;
    private static final int MOST_ROW = 3;
    private static final int MOST_OFF = 999;
    private static final int MOST_WARMTH = 99;
    private static final int BOXES = 3;

    private final Tape tape = new Tape();
    private final Shop shop = new Shop();
    private final Shop spareShop = new Shop();
    private final Plan plan = new Plan();
    private final Plan sparePlan = new Plan();
    private final Bench bench = new Bench();
    private final Bench[] boxes = new Bench[BOXES];
    private final boolean[] kept = new boolean[BOXES];
    private final Laying laying = new Laying(shop);
    private final Trials trials = new Trials(shop, plan, bench, laying);
    private final Worlds dots = new Worlds(shop, bench, laying);
    private final Equations equations = new Equations(shop, plan, laying);
    private final Hand hand = new Hand();

    public ThreePlates() {
        bench.w = 1;
        for (int box = 0; box < BOXES; box++) {
            boxes[box] = new Bench();
        }
    }

    public int feed(int a, int b, int c, int d, int e) {
        if (tape.length + BYTES_FED > MOST_BYTES) {
            return NONE;
        }
        tape.append(a);
        tape.append(b);
        tape.append(c);
        tape.append(d);
        tape.append(e);
        return tape.length;
    }

    public int end(int n) {
        if (n < 0 || n > tape.length) {
            return NONE;
        }
        tape.length = n;
        return n;
    }

    public int shop() {
        tape.open();
        boolean good = spareShop.readShop(tape);
        tape.length = 0;
        if (!good) {
            return NONE;
        }
        shop.become(spareShop);
        bench.begin(shop);
        plan.count = 0;
        for (int box = 0; box < BOXES; box++) {
            kept[box] = false;
        }
        dots.forgetSights();
        changed();
        return shop.plates;
    }

    public int order() {
        if (tape.length > MOST_ORDER_BYTES) {
            return TOO_LONG;
        }
        tape.open();
        boolean good = sparePlan.readPlan(tape, shop);
        tape.length = 0;
        if (!good) {
            return NONE;
        }
        plan.become(sparePlan);
        changed();
        return plan.count;
    }

    public int fault(int what) {
        if (what == 0) {
            return tape.fault;
        }
        return what == 1 ? tape.place : NONE;
    }

    public int height(int plate, int cell) {
        return shop.hasCell(plate, cell) ? bench.height[plate * MOST_CELLS + cell] : NO_SUCH;
    }

    public int seems(int plate, int cell) {
        return shop.hasCell(plate, cell) ? bench.seemsAt(plate * MOST_CELLS + cell) : NO_SUCH;
    }

    public int lay(int a, int b, int turn, int u, int v, int what) {
        if (!isPart(what) || !canLie(a, b, turn, u, v)) {
            return NONE;
        }
        laying.put(bench, a, b, turn, u, v);
        return what == 0 ? Integer.bitCount(laying.reds(laying.lower)) : laying.pairs;
    }

    public int gap(int a, int b, int turn, int u, int v, int cell, int part) {
        if (!isPart(part) || !canLie(a, b, turn, u, v) || !shop.hasCell(a, cell)) {
            return NONE;
        }
        laying.put(bench, a, b, turn, u, v);
        int pair = laying.pairOverLower(cell);
        if (pair == NONE) {
            return NONE;
        }
        return (int) lowest(laying.resting.gaps[pair], laying.resting.den, part);
    }

    public long air(int a, int b, int turn, int u, int v, int part) {
        if (!isPart(part) || !canLie(a, b, turn, u, v)) {
            return NONE;
        }
        laying.put(bench, a, b, turn, u, v);
        return lowest(laying.resting.allGaps(), laying.resting.den, part);
    }

    public int lift(int a, int b, int turn, int u, int v, int n) {
        if (!isOff(n) || !canLie(a, b, turn, u, v)) {
            return NONE;
        }
        laying.put(bench, a, b, turn, u, v);
        return laying.resting.isWithin(n) ? 1 : 0;
    }

    public int round(int i) {
        if (!plan.hasRound(i)) {
            return NONE;
        }
        changed();
        return laying.scrape(bench, plan.rounds[i]);
    }

    public int run(int n) {
        if (n < 0 || n > MOST_RUN || plan.count == 0) {
            return NONE;
        }
        changed();
        for (int done = 0; done < n; done++) {
            laying.scrape(bench, plan.roundAfter(done));
        }
        return bench.strokes;
    }

    public int off(int plate, int part) {
        if (!isPart(part) || !shop.hasPlate(plate)) {
            return NONE;
        }
        laying.loadPlate(bench, plate, 1);
        laying.resting.settle();
        return (int) lowest(laying.resting.mostGap(), laying.resting.den, part);
    }

    public int flat(int n) {
        if (!isOff(n)) {
            return NONE;
        }
        return trials.areAllFlat(n) ? 1 : 0;
    }

    public boolean warm(int plate, int cell, int n) {
        if (!shop.hasCell(plate, cell) || n < 1 || n > 20) {
            return false;
        }
        changed();
        bench.warmAround(plate, cell, n, shop.size);
        return true;
    }

    public boolean rest(int minutes) {
        if (minutes < 0 || minutes > 1000) {
            return false;
        }
        changed();
        bench.cool(minutes);
        return true;
    }

    public int hidden() {
        int unknowns = equations.countUnknowns();
        return unknowns - equations.rank() - 3 * shop.plates;
    }

    public int hides() {
        if (plan.count == 0) {
            return NONE;
        }
        for (int i = 0; i < plan.count; i++) {
            Round round = plan.rounds[i];
            laying.put(bench, round.lower, round.upper, round.turn, round.u, round.v);
            if (!laying.resting.isWithin(shop.red)) {
                return 0;
            }
        }
        return 1;
    }

    public int until(int n) {
        if (!isOff(n) || plan.count == 0) {
            return NONE;
        }
        return trials.roundsTillFlat(n);
    }

    public int best(int m, int n) {
        return trials.findBest(m, n) ? trials.bestIron : NONE;
    }

    public int bestRound(int m, int n, int j) {
        if (j < 0 || j >= m || j >= MOST_ROW || !trials.findBest(m, n)) {
            return NONE;
        }
        return trials.bestRow[j];
    }

    public long hole(int plate, int part) {
        if (!isPart(part) || !shop.hasPlate(plate)) {
            return NONE;
        }
        laying.loadPlate(bench, plate, -1);
        laying.resting.settle();
        return lowest(laying.resting.allGaps(), laying.resting.den, part);
    }

    public int edge(int plate, boolean row, int i, int part) {
        if (!isPart(part) || !shop.hasPlate(plate) || i < 0 || i >= shop.size) {
            return NONE;
        }
        laying.loadEdge(bench, plate, row, i);
        laying.resting.settleLine();
        return (int) lowest(laying.resting.mostGap(), laying.resting.den, part);
    }

    public int square(int ab, int bc, int ca, int which, int part) {
        if (!isPart(part) || !isShown(ab) || !isShown(bc) || !isShown(ca)) {
            return NO_SUCH;
        }
        switch (which) {
            case 0:
                return (int) lowest(ab + ca - bc, 2, part);
            case 1:
                return (int) lowest(ab + bc - ca, 2, part);
            case 2:
                return (int) lowest(bc + ca - ab, 2, part);
            default:
                return NO_SUCH;
        }
    }

    public int cut(int deep, int taken) {
        return hand.tell(deep, taken);
    }

    public int clear() {
        int were = hand.count;
        hand.count = 0;
        return were;
    }

    public int fits() {
        return hand.countFitting();
    }

    public int tight(int what) {
        return isPart(what) ? hand.tightest(what == 0) : NONE;
    }

    public boolean stand(int plate, int a, int b, int c, int soft) {
        if (!shop.hasCell(plate, a) || !shop.hasCell(plate, b) || !shop.hasCell(plate, c)) {
            return false;
        }
        if (a == b || b == c || a == c || soft < 0 || soft > 9) {
            return false;
        }
        changed();
        for (int cell = 0; cell < shop.cells(); cell++) {
            int near = Math.min(shop.squareOfWay(cell, a), shop.squareOfWay(cell, b));
            near = Math.min(near, shop.squareOfWay(cell, c));
            bench.sag[plate * MOST_CELLS + cell] = soft * near / 4;
        }
        return true;
    }

    public int deepest(int i, int what) {
        if (!plan.hasRound(i) || what < 0 || what > 2) {
            return NONE;
        }
        trials.findDeepest(plan.rounds[i]);
        if (what == 0) {
            return trials.deepestDeep;
        }
        return (int) lowest(trials.deepestUp, trials.deepestDown, what - 1);
    }

    public int sight(int plate, int turn, int u, int v, int reds) {
        if (!shop.hasPlate(plate) || !isTurn(turn) || !isShift(u) || !isShift(v)) {
            return NONE;
        }
        if (reds < 0 || reds >= 1 << shop.cells()) {
            return NONE;
        }
        return dots.tell(plate, turn, u, v, reds);
    }

    public int worlds() {
        return dots.isSpent() ? SPENT : dots.countFitting();
    }

    public int world(int i) {
        if (dots.isSpent() || i < 0 || i >= dots.countFitting()) {
            return NONE;
        }
        return dots.fitting[i];
    }

    public int known(boolean high, int part) {
        if (!isPart(part)) {
            return NONE;
        }
        if (dots.isSpent()) {
            return SPENT;
        }
        if (dots.countFitting() == 0) {
            return NONE;
        }
        return high ? dots.mostOff(part) : dots.leastOff(part);
    }

    public int ask(int what) {
        if (what < 0 || what > 2 || shop.plates == 0) {
            return NONE;
        }
        if (dots.isSpent()) {
            return SPENT;
        }
        return dots.countFitting() == 0 ? NONE : dots.answerAsked(what);
    }

    public int seed(int w) {
        int was = bench.w;
        bench.w = w;
        changed();
        return was;
    }

    public int image(int box) {
        if (box < 0 || box >= BOXES) {
            return NONE;
        }
        boxes[box].become(bench);
        kept[box] = true;
        return shop.plates;
    }

    public int back(int box) {
        if (box < 0 || box >= BOXES || !kept[box]) {
            return NONE;
        }
        bench.become(boxes[box]);
        changed();
        return shop.plates;
    }

    public int about(int what) {
        switch (what) {
            case 0:
                return shop.plates;
            case 1:
                return shop.size;
            case 2:
                return plan.count;
            case 3:
                return bench.strokes;
            case 4:
                return bench.iron;
            case 5:
                return bench.w;
            case 6:
                return tape.length;
            case 7:
                return hand.count;
            case 8:
                return dots.count;
            default:
                return NONE;
        }
    }

    /** Each call that changes what answers depend on comes by here, since dear answers are kept. */
    private void changed() {
        trials.bestIsFresh = false;
        dots.forgetFitting();
    }

    private boolean canLie(int a, int b, int turn, int u, int v) {
        return shop.hasPlate(a) && shop.hasPlate(b) && a != b && isTurn(turn) && isShift(u) && isShift(v);
    }

    private static boolean isPart(int part) {
        return part == 0 || part == 1;
    }

    private static boolean isOff(int n) {
        return n >= 0 && n <= MOST_OFF;
    }

    private static boolean isTurn(int turn) {
        return turn >= 0 && turn <= 3;
    }

    private static boolean isShift(int shift) {
        return shift >= -1 && shift <= 1;
    }

    private static boolean isShown(int shown) {
        return shown >= -9999 && shown <= 9999;
    }

    /** The upper (0) or lower (1) part of a fraction in lowest terms. */
    private static long lowest(long up, long down, int part) {
        long a = Math.abs(up);
        long b = Math.abs(down);
        // Euclid needs fewer than 100 steps for any two longs
        for (int step = 0; step < 200 && b != 0; step++) {
            long left = a % b;
            a = b;
            b = left;
        }
        if (a == 0) {
            return part == 0 ? up : down;
        }
        return part == 0 ? up / a : down / a;
    }

    /** The bytes that were fed, and the tokens read from them with the first fault. */
    private static final class Tape {
        static final int END = 0;
        static final int WORD = 1;
        static final int NUMBER = 2;
        static final int STOP = 3;
        static final int MINUS = 4;
        static final int NO_TOKEN = 5;

        static final int FAULT_NO_TOKEN = 1;
        static final int FAULT_NOT_THERE = 2;
        static final int FAULT_NAME_TOLD = 3;
        static final int FAULT_NUMBER = 4;
        static final int FAULT_NO_NAME = 5;

        // a word is kept as the bytes of its letters, the last one lowest
        static final long SIZE = 0x73697A65L;
        static final long PLATE = 0x706C617465L;
        static final long RED = 0x726564L;
        static final long SLIP = 0x736C6970L;
        static final long LAY = 0x6C6179L;
        static final long ON = 0x6F6EL;
        static final long TURN = 0x7475726EL;
        static final long BY = 0x6279L;
        static final long SCRAPE = 0x736372617065L;
        static final long DEEP = 0x64656570L;

        static final int MOST_LETTERS = 8;
        static final int MOST_DIGITS = 4;

        private final byte[] bytes = new byte[MOST_BYTES];
        int length;
        int fault;
        int place = NONE;
        private int at;
        private int kind;
        private int start;
        private long word;
        private int number;
        int value;
        long name;
        int namePlace;

        void append(int four) {
            for (int shift = 24; shift >= 0; shift -= 8) {
                if (length < MOST_BYTES) {
                    bytes[length] = (byte) (four >>> shift);
                    length++;
                }
            }
        }

        void open() {
            fault = 0;
            place = NONE;
            at = 0;
            step();
        }

        boolean fail(int what, int where) {
            fault = what;
            place = where;
            return false;
        }

        /** The token that comes next can't stand there. */
        boolean refuse() {
            return fail(kind == NO_TOKEN ? FAULT_NO_TOKEN : FAULT_NOT_THERE, start);
        }

        boolean isAtEnd() {
            return kind == END;
        }

        boolean isWord(long which) {
            return kind == WORD && word == which;
        }

        boolean takeWord(long which) {
            if (!isWord(which)) {
                return refuse();
            }
            step();
            return true;
        }

        boolean takeStop() {
            if (kind != STOP) {
                return refuse();
            }
            step();
            return true;
        }

        boolean takeName() {
            if (kind != WORD || isKeyword(word)) {
                return refuse();
            }
            name = word;
            namePlace = start;
            step();
            return true;
        }

        /** A number, with a sign if that may be, into value. */
        boolean takeNumber(boolean signed, int least, int most) {
            int where = start;
            int sign = 1;
            if (signed && kind == MINUS) {
                sign = -1;
                step();
            }
            if (kind != NUMBER) {
                return refuse();
            }
            value = sign * number;
            if (value < least || value > most) {
                return fail(FAULT_NUMBER, where);
            }
            step();
            return true;
        }

        private void step() {
            while (at < length && isBlank(bytes[at])) {
                at++;
            }
            start = at;
            if (at >= length) {
                kind = END;
            } else if (isLetter(bytes[at])) {
                stepWord();
            } else if (isDigit(bytes[at])) {
                stepNumber();
            } else {
                stepSign(bytes[at]);
            }
        }

        private void stepWord() {
            word = 0;
            while (at < length && isLetter(bytes[at])) {
                word = word << 8 | bytes[at];
                at++;
            }
            kind = at - start > MOST_LETTERS ? NO_TOKEN : WORD;
        }

        private void stepNumber() {
            number = 0;
            while (at < length && isDigit(bytes[at])) {
                number = number * 10 + (bytes[at] - '0');
                at++;
            }
            boolean letterBehind = at < length && isLetter(bytes[at]);
            kind = letterBehind || at - start > MOST_DIGITS ? NO_TOKEN : NUMBER;
        }

        private void stepSign(int sign) {
            if (sign == ';') {
                kind = STOP;
            } else if (sign == '-') {
                kind = MINUS;
            } else {
                kind = NO_TOKEN;
            }
            at++;
        }

        private static boolean isBlank(int sign) {
            return sign == 32 || sign == 10;
        }

        private static boolean isLetter(int sign) {
            return sign >= 'a' && sign <= 'z';
        }

        private static boolean isDigit(int sign) {
            return sign >= '0' && sign <= '9';
        }

        private static boolean isKeyword(long which) {
            return which == SIZE || which == PLATE || which == RED || which == SLIP || which == LAY
                    || which == ON || which == TURN || which == BY || which == SCRAPE || which == DEEP;
        }
    }

    /** What a text tells of a shop. */
    private static final class Shop {
        static final int FIRST_SIZE = 3;

        final long[] names = new long[MOST_PLATES];
        final int[] heights = new int[MOST_PLATES * MOST_CELLS];
        int plates;
        int size = FIRST_SIZE;
        int red;
        int slip;
        private boolean sizeIsTold;
        private boolean redIsTold;
        private boolean slipIsTold;

        boolean hasPlate(int plate) {
            return plate >= 0 && plate < plates;
        }

        boolean hasCell(int plate, int cell) {
            return hasPlate(plate) && cell >= 0 && cell < size * size;
        }

        int cells() {
            return size * size;
        }

        int squareOfWay(int cell, int other) {
            int dx = cell % size - other % size;
            int dy = cell / size - other / size;
            return dx * dx + dy * dy;
        }

        int findName(long name) {
            for (int plate = 0; plate < plates; plate++) {
                if (names[plate] == name) {
                    return plate;
                }
            }
            return NONE;
        }

        void become(Shop other) {
            System.arraycopy(other.names, 0, names, 0, names.length);
            System.arraycopy(other.heights, 0, heights, 0, heights.length);
            plates = other.plates;
            size = other.size;
            red = other.red;
            slip = other.slip;
        }

        boolean readShop(Tape tape) {
            plates = 0;
            size = FIRST_SIZE;
            red = 0;
            slip = 0;
            sizeIsTold = false;
            redIsTold = false;
            slipIsTold = false;
            // each line takes bytes, so there are never more lines than bytes
            for (int line = 0; line <= MOST_BYTES; line++) {
                if (tape.isAtEnd()) {
                    return true;
                }
                if (!readLine(tape)) {
                    return false;
                }
            }
            return false;
        }

        private boolean readLine(Tape tape) {
            if (tape.isWord(Tape.PLATE) && plates < MOST_PLATES) {
                return readPlate(tape);
            }
            if (tape.isWord(Tape.SIZE) && !sizeIsTold && plates == 0) {
                sizeIsTold = true;
                boolean good = readSetting(tape, Tape.SIZE, 3, 5);
                size = good ? tape.value : size;
                return good;
            }
            if (tape.isWord(Tape.RED) && !redIsTold) {
                redIsTold = true;
                boolean good = readSetting(tape, Tape.RED, 0, 20);
                red = tape.value;
                return good;
            }
            if (tape.isWord(Tape.SLIP) && !slipIsTold) {
                slipIsTold = true;
                boolean good = readSetting(tape, Tape.SLIP, 0, 8);
                slip = tape.value;
                return good;
            }
            return tape.refuse();
        }

        private static boolean readSetting(Tape tape, long word, int least, int most) {
            return tape.takeWord(word) && tape.takeNumber(false, least, most) && tape.takeStop();
        }

        private boolean readPlate(Tape tape) {
            if (!tape.takeWord(Tape.PLATE) || !tape.takeName()) {
                return false;
            }
            if (findName(tape.name) != NONE) {
                return tape.fail(Tape.FAULT_NAME_TOLD, tape.namePlace);
            }
            names[plates] = tape.name;
            for (int cell = 0; cell < cells(); cell++) {
                if (!tape.takeNumber(true, -99, 99)) {
                    return false;
                }
                heights[plates * MOST_CELLS + cell] = tape.value;
            }
            plates++;
            return tape.takeStop();
        }
    }

    /** One plate laid on another, and one of both scraped. */
    private static final class Round {
        int upper;
        int lower;
        int turn;
        int u;
        int v;
        int scraped;
        int deep;

        void become(Round other) {
            upper = other.upper;
            lower = other.lower;
            turn = other.turn;
            u = other.u;
            v = other.v;
            scraped = other.scraped;
            deep = other.deep;
        }

        boolean readRound(Tape tape, Shop shop) {
            return readPlates(tape, shop) && readPlace(tape) && readScrape(tape, shop);
        }

        private boolean readPlates(Tape tape, Shop shop) {
            if (!tape.takeWord(Tape.LAY) || !tape.takeName()) {
                return false;
            }
            upper = shop.findName(tape.name);
            if (upper == NONE) {
                return tape.fail(Tape.FAULT_NO_NAME, tape.namePlace);
            }
            if (!tape.takeWord(Tape.ON) || !tape.takeName()) {
                return false;
            }
            lower = shop.findName(tape.name);
            if (lower == NONE || lower == upper) {
                return tape.fail(Tape.FAULT_NO_NAME, tape.namePlace);
            }
            return true;
        }

        private boolean readPlace(Tape tape) {
            if (!tape.takeWord(Tape.TURN) || !tape.takeNumber(false, 0, 3)) {
                return false;
            }
            turn = tape.value;
            u = 0;
            v = 0;
            if (!tape.isWord(Tape.BY)) {
                return true;
            }
            if (!tape.takeWord(Tape.BY) || !tape.takeNumber(true, -1, 1)) {
                return false;
            }
            u = tape.value;
            if (!tape.takeNumber(true, -1, 1)) {
                return false;
            }
            v = tape.value;
            return true;
        }

        private boolean readScrape(Tape tape, Shop shop) {
            if (!tape.takeWord(Tape.SCRAPE) || !tape.takeName()) {
                return false;
            }
            scraped = shop.findName(tape.name);
            if (scraped != upper && scraped != lower) {
                return tape.fail(Tape.FAULT_NO_NAME, tape.namePlace);
            }
            if (!tape.takeWord(Tape.DEEP) || !tape.takeNumber(false, 1, 9)) {
                return false;
            }
            deep = tape.value;
            return tape.takeStop();
        }
    }

    /** The rounds of an order. */
    private static final class Plan {
        final Round[] rounds = new Round[MOST_ROUNDS];
        int count;

        Plan() {
            for (int i = 0; i < MOST_ROUNDS; i++) {
                rounds[i] = new Round();
            }
        }

        boolean hasRound(int i) {
            return i >= 0 && i < count;
        }

        /** The round that comes when so many were done, again from the first behind the last. */
        Round roundAfter(int done) {
            return rounds[count > 0 && done >= 0 ? done % count : 0];
        }

        void become(Plan other) {
            for (int i = 0; i < other.count; i++) {
                rounds[i].become(other.rounds[i]);
            }
            count = other.count;
        }

        boolean readPlan(Tape tape, Shop shop) {
            for (count = 0; count < MOST_ROUNDS; count++) {
                if (tape.isAtEnd()) {
                    return true;
                }
                if (!rounds[count].readRound(tape, shop)) {
                    return false;
                }
            }
            return tape.isAtEnd() || tape.refuse();
        }
    }

    /** All that work and warmth change, and that an image keeps. */
    private static final class Bench {
        static final int LOWEST = -999;

        final int[] height = new int[MOST_PLATES * MOST_CELLS];
        final int[] warmth = new int[MOST_PLATES * MOST_CELLS];
        final int[] sag = new int[MOST_PLATES * MOST_CELLS];
        int strokes;
        int iron;
        int w;

        void begin(Shop shop) {
            System.arraycopy(shop.heights, 0, height, 0, height.length);
            Arrays.fill(warmth, 0);
            Arrays.fill(sag, 0);
            strokes = 0;
            iron = 0;
        }

        void become(Bench other) {
            System.arraycopy(other.height, 0, height, 0, height.length);
            System.arraycopy(other.warmth, 0, warmth, 0, warmth.length);
            System.arraycopy(other.sag, 0, sag, 0, sag.length);
            strokes = other.strokes;
            iron = other.iron;
            w = other.w;
        }

        int seemsAt(int at) {
            return height[at] + warmth[at] - sag[at];
        }

        void copySeems(int plate, int cells, int[] into) {
            for (int cell = 0; cell < cells; cell++) {
                into[cell] = seemsAt(plate * MOST_CELLS + cell);
            }
        }

        void warmAround(int plate, int cell, int n, int size) {
            int x = cell % size;
            int y = cell / size;
            int at = plate * MOST_CELLS + cell;
            warmOne(at, n);
            if (x > 0) {
                warmOne(at - 1, n / 2);
            }
            if (x < size - 1) {
                warmOne(at + 1, n / 2);
            }
            if (y > 0) {
                warmOne(at - size, n / 2);
            }
            if (y < size - 1) {
                warmOne(at + size, n / 2);
            }
        }

        private void warmOne(int at, int n) {
            warmth[at] = Math.min(MOST_WARMTH, warmth[at] + n);
        }

        void cool(int minutes) {
            for (int at = 0; at < warmth.length; at++) {
                warmth[at] = Math.max(0, warmth[at] - minutes);
            }
        }

        int stroke(int plate, int cell, int deep, int slip, int size) {
            int at = plate * MOST_CELLS + cell;
            if (height[at] < LOWEST) {
                return 0;
            }
            takeFrom(at, deep);
            strokes++;
            // without slip nothing may be drawn
            if (slip > 0 && draw() < slip) {
                takeFrom(at, 1);
                if (cell % size < size - 1) {
                    takeFrom(at + 1, 1);
                }
            }
            return 1;
        }

        /** Deep and slips alike: a height can fall too low between them, and gets no less from then on. */
        private void takeFrom(int at, int much) {
            if (height[at] < LOWEST) {
                return;
            }
            height[at] -= much;
            iron += much;
        }

        private int draw() {
            w = w * 1103515245 + 12345;
            return (w >>> 16) % 8;
        }
    }

    /** A plane that rests on cells, and the gaps below it, all over one lower part. */
    private static final class Resting {
        static final int CORNERS = 3;
        // three of 25 cells: a row of exchanges never comes to one triangle twice
        static final int MOST_TRIANGLES = 2300;

        private final int[] xs = new int[MOST_CELLS];
        private final int[] ys = new int[MOST_CELLS];
        private final int[] sums = new int[MOST_CELLS];
        private final int[] corners = new int[CORNERS];
        final int[] gaps = new int[MOST_CELLS];
        private int count;
        private int totalX;
        private int totalY;
        // the plane is (base + slopeX * x + slopeY * y) / den
        private int base;
        private int slopeX;
        private int slopeY;
        int den = 1;

        void begin() {
            count = 0;
            totalX = 0;
            totalY = 0;
        }

        void add(int x, int y, int sum) {
            if (count >= MOST_CELLS) {
                return;
            }
            xs[count] = x;
            ys[count] = y;
            sums[count] = sum;
            totalX += x;
            totalY += y;
            count++;
        }

        int mostGap() {
            int most = 0;
            for (int k = 0; k < count; k++) {
                most = Math.max(most, gaps[k]);
            }
            return most;
        }

        long allGaps() {
            long all = 0;
            for (int k = 0; k < count; k++) {
                all += gaps[k];
            }
            return all;
        }

        boolean isWithin(int n) {
            return mostGap() <= n * den;
        }

        /**
         * Finds the plane over cells that make up a rectangle, two by two at least. To try all threes would do;
         * instead a triangle below the middle climbs: a cell above its plane comes in for one of its corners, the
         * first such cell and of like corners the first, so that it never comes back to where it was (Bland).
         */
        void settle() {
            if (count <= CORNERS) {
                return;
            }
            corners[0] = 0;
            corners[1] = 1;
            corners[2] = count - 1;
            for (int step = 0; step < MOST_TRIANGLES; step++) {
                span(corners[0], corners[1], corners[2]);
                int above = firstAbove();
                if (above == NONE) {
                    break;
                }
                exchange(above);
            }
            // a plane as low over the middle touches all corners that hold it: if three do, there is no other
            if (holder(0) != NONE && holder(2) == NONE) {
                chooseAmongLike(holder(0), holder(1));
            }
        }

        /** The plane through three cells; false if they are in one line. */
        private boolean span(int i, int j, int k) {
            int jx = xs[j] - xs[i];
            int jy = ys[j] - ys[i];
            int kx = xs[k] - xs[i];
            int ky = ys[k] - ys[i];
            int det = jx * ky - kx * jy;
            if (det == 0) {
                return false;
            }
            int sign = det < 0 ? -1 : 1;
            int js = sign * (sums[j] - sums[i]);
            int ks = sign * (sums[k] - sums[i]);
            den = sign * det;
            slopeX = js * ky - ks * jy;
            slopeY = jx * ks - kx * js;
            base = sums[i] * den - slopeX * xs[i] - slopeY * ys[i];
            return true;
        }

        /** Reckons the gaps, up to the first cell that stands above the plane: that cell. */
        private int firstAbove() {
            for (int k = 0; k < count; k++) {
                gaps[k] = base + slopeX * xs[k] + slopeY * ys[k] - sums[k] * den;
                if (gaps[k] < 0) {
                    return k;
                }
            }
            return NONE;
        }

        /** Puts a cell in place of that corner without which the triangle still lies below the middle. */
        private void exchange(int cell) {
            int out = NONE;
            int outCell = 0;
            int outMiddle = 0;
            for (int i = 0; i < CORNERS; i++) {
                int ofCell = weight(i, xs[cell], ys[cell], 1);
                if (ofCell <= 0) {
                    continue;
                }
                int ofMiddle = weight(i, totalX, totalY, count);
                int order = Integer.compare(ofMiddle * outCell, outMiddle * ofCell);
                if (out == NONE || order < 0 || order == 0 && corners[i] < corners[out]) {
                    out = i;
                    outCell = ofCell;
                    outMiddle = ofMiddle;
                }
            }
            if (out != NONE) {
                corners[out] = cell;
            }
        }

        /** What a corner weighs if the point x / times, y / times hangs by the three; 0 or less: it does not hold it. */
        private int weight(int corner, int x, int y, int times) {
            int a = corners[(corner + 1) % CORNERS];
            int b = corners[(corner + 2) % CORNERS];
            return times * (xs[a] * ys[b] - xs[b] * ys[a]) + y * (xs[b] - xs[a]) - x * (ys[b] - ys[a]);
        }

        /** The n-th corner (from 0) without which the triangle would not lie below the middle. */
        private int holder(int n) {
            int found = 0;
            for (int i = 0; i < CORNERS; i++) {
                if (weight(i, totalX, totalY, count) > 0) {
                    if (found == n) {
                        return corners[i];
                    }
                    found++;
                }
            }
            return NONE;
        }

        /** Of all planes that touch p, and q if there is one, and lie above all: that with the first three cells. */
        private void chooseAmongLike(int p, int q) {
            int least = Integer.MAX_VALUE;
            int second = corners[0];
            int third = corners[1];
            int last = q == NONE ? count - 1 : q;
            for (int j = q == NONE ? 0 : q; j <= last; j++) {
                for (int k = q == NONE ? j + 1 : 0; k < count; k++) {
                    if (span(p, j, k) && firstAbove() == NONE && firstTouched() < least) {
                        least = firstTouched();
                        second = j;
                        third = k;
                    }
                }
            }
            span(p, second, third);
            firstAbove();
        }

        /** The first three cells not in one line that the plane touches, as one number to compare by. */
        private int firstTouched() {
            int i = NONE;
            int j = NONE;
            for (int k = 0; k < count; k++) {
                if (gaps[k] != 0) {
                    continue;
                }
                if (i == NONE) {
                    i = k;
                } else if (j == NONE) {
                    j = k;
                } else if ((xs[j] - xs[i]) * (ys[k] - ys[i]) != (xs[k] - xs[i]) * (ys[j] - ys[i])) {
                    return (i * MOST_CELLS + j) * MOST_CELLS + k;
                }
            }
            return Integer.MAX_VALUE;
        }

        /** As settle, for cells one behind the other along x: a line through two of them. */
        void settleLine() {
            int second = NONE;
            int first = NONE;
            int bestUp = 0;
            int bestDown = 0;
            for (int i = 0; i < count; i++) {
                for (int j = i + 1; j < count; j++) {
                    stretch(i, j);
                    int up = base * count + slopeX * totalX;
                    boolean lower = first == NONE || up * bestDown < bestUp * den;
                    if (lower && firstAbove() == NONE) {
                        first = i;
                        second = j;
                        bestUp = up;
                        bestDown = den;
                    }
                }
            }
            if (first != NONE) {
                stretch(first, second);
                firstAbove();
            }
        }

        private void stretch(int i, int j) {
            den = xs[j] - xs[i];
            slopeX = sums[j] - sums[i];
            slopeY = 0;
            base = sums[i] * den - slopeX * xs[i];
        }
    }

    /** Which cells of two plates lie on one another, and how the upper plate rests there. */
    private static final class Laying {
        private final Shop shop;
        final Resting resting = new Resting();
        final int[] below = new int[MOST_CELLS];
        final int[] above = new int[MOST_CELLS];
        private final int[] over = new int[MOST_CELLS];
        final int[] lower = new int[MOST_CELLS];
        final int[] upper = new int[MOST_CELLS];
        int pairs;

        Laying(Shop shop) {
            this.shop = shop;
        }

        void put(Bench bench, int a, int b, int turn, int u, int v) {
            match(turn, u, v);
            bench.copySeems(a, shop.cells(), below);
            bench.copySeems(b, shop.cells(), above);
            loadPairs();
            resting.settle();
        }

        /** Pairs come by the numbers of the lower cells, since of like planes the first cells of those count. */
        void match(int turn, int u, int v) {
            Arrays.fill(over, NONE);
            for (int cell = 0; cell < shop.cells(); cell++) {
                int spot = spotOf(cell, turn, u, v);
                if (spot != NONE) {
                    over[spot] = cell;
                }
            }
            pairs = 0;
            for (int cell = 0; cell < shop.cells(); cell++) {
                if (over[cell] != NONE) {
                    lower[pairs] = cell;
                    upper[pairs] = over[cell];
                    pairs++;
                }
            }
        }

        private int spotOf(int cell, int turn, int u, int v) {
            int last = shop.size - 1;
            int x = last - cell % shop.size;
            int y = cell / shop.size;
            for (int quarter = 0; quarter < turn; quarter++) {
                int turned = last - y;
                y = x;
                x = turned;
            }
            x += u;
            y += v;
            boolean inside = x >= 0 && x <= last && y >= 0 && y <= last;
            return inside ? shop.size * y + x : NONE;
        }

        void loadPairs() {
            resting.begin();
            for (int pair = 0; pair < pairs; pair++) {
                int cell = lower[pair];
                resting.add(cell % shop.size, cell / shop.size, below[cell] + above[upper[pair]]);
            }
        }

        /** A plate alone by its heights, or (sign -1) by its heights turned about. */
        void loadPlate(Bench bench, int plate, int sign) {
            resting.begin();
            for (int cell = 0; cell < shop.cells(); cell++) {
                int height = bench.height[plate * MOST_CELLS + cell];
                resting.add(cell % shop.size, cell / shop.size, sign * height);
            }
        }

        void loadAlone(int[] heights) {
            resting.begin();
            for (int cell = 0; cell < shop.cells(); cell++) {
                resting.add(cell % shop.size, cell / shop.size, heights[cell]);
            }
        }

        void loadEdge(Bench bench, int plate, boolean row, int i) {
            resting.begin();
            for (int k = 0; k < shop.size; k++) {
                int cell = row ? shop.size * i + k : shop.size * k + i;
                resting.add(k, 0, bench.height[plate * MOST_CELLS + cell]);
            }
        }

        int pairOverLower(int cell) {
            for (int pair = 0; pair < pairs; pair++) {
                if (lower[pair] == cell) {
                    return pair;
                }
            }
            return NONE;
        }

        /** The red cells as bits, by the numbers of the lower or of the upper ones. */
        int reds(int[] cells) {
            int bits = 0;
            for (int pair = 0; pair < pairs; pair++) {
                if (resting.gaps[pair] <= shop.red * resting.den) {
                    bits |= 1 << cells[pair];
                }
            }
            return bits;
        }

        int redsToScrape(Round round) {
            return reds(round.scraped == round.upper ? upper : lower);
        }

        int scrape(Bench bench, Round round) {
            put(bench, round.lower, round.upper, round.turn, round.u, round.v);
            return scrapeCells(bench, round.scraped, redsToScrape(round), round.deep, shop.slip);
        }

        int scrapeCells(Bench bench, int plate, int bits, int deep, int slip) {
            int strokes = 0;
            for (int cell = 0; cell < shop.cells(); cell++) {
                if ((bits >>> cell & 1) != 0) {
                    strokes += bench.stroke(plate, cell, deep, slip, shop.size);
                }
            }
            return strokes;
        }
    }

    /** What is tried on benches of its own, so that all stays as it was. */
    private static final class Trials {
        static final int MOST_DEEP = 9;

        private final Shop shop;
        private final Plan plan;
        private final Bench bench;
        private final Laying laying;
        private final Bench[] tries = new Bench[MOST_ROW + 1];
        private final boolean[] flatNow = new boolean[MOST_PLATES];
        private final int[] row = new int[MOST_ROW];
        final int[] bestRow = new int[MOST_ROW];
        int bestIron = NONE;
        boolean bestIsFresh;
        private int bestLength;
        private int bestLimit;
        int deepestDeep;
        int deepestUp;
        int deepestDown;

        Trials(Shop shop, Plan plan, Bench bench, Laying laying) {
            this.shop = shop;
            this.plan = plan;
            this.bench = bench;
            this.laying = laying;
            for (int i = 0; i <= MOST_ROW; i++) {
                tries[i] = new Bench();
            }
        }

        private boolean isFlat(Bench on, int plate, int n) {
            laying.loadPlate(on, plate, 1);
            laying.resting.settle();
            return laying.resting.isWithin(n);
        }

        boolean areAllFlat(int n) {
            for (int plate = 0; plate < shop.plates; plate++) {
                if (!isFlat(bench, plate, n)) {
                    return false;
                }
            }
            return true;
        }

        private void lookForFlat(int n) {
            for (int plate = 0; plate < shop.plates; plate++) {
                flatNow[plate] = isFlat(bench, plate, n);
            }
        }

        private boolean isEachFlat() {
            for (int plate = 0; plate < shop.plates; plate++) {
                if (!flatNow[plate]) {
                    return false;
                }
            }
            return true;
        }

        int roundsTillFlat(int n) {
            Bench on = tries[0];
            on.become(bench);
            lookForFlat(n);
            for (int done = 0; done < MOST_RUN; done++) {
                if (isEachFlat()) {
                    return done;
                }
                Round round = plan.roundAfter(done);
                laying.scrape(on, round);
                // no other plate's heights are changed by a round
                flatNow[round.scraped] = isFlat(on, round.scraped, n);
            }
            return isEachFlat() ? MOST_RUN : NONE;
        }

        /** The row of so many rounds that takes least iron: false if there is none. */
        boolean findBest(int length, int n) {
            if (length < 1 || length > MOST_ROW || !isOff(n) || plan.count == 0) {
                return false;
            }
            if (!bestIsFresh || bestLength != length || bestLimit != n) {
                bestIsFresh = true;
                bestLength = length;
                bestLimit = n;
                bestIron = NONE;
                lookForFlat(n);
                tries[0].become(bench);
                tryRows(0);
            }
            return bestIron != NONE;
        }

        private void tryRows(int depth) {
            if (depth >= bestLength || depth >= MOST_ROW) {
                return;
            }
            Bench on = tries[depth + 1];
            for (int i = 0; i < plan.count; i++) {
                on.become(tries[depth]);
                laying.scrape(on, plan.rounds[i]);
                row[depth] = i;
                int iron = on.iron - bench.iron;
                // iron never gets less, and of like rows the first one counts
                if (bestIron != NONE && iron >= bestIron) {
                    continue;
                }
                if (depth + 1 < bestLength) {
                    tryRows(depth + 1);
                } else if (isRowFlat(on)) {
                    bestIron = iron;
                    System.arraycopy(row, 0, bestRow, 0, bestLength);
                }
            }
        }

        /** A plate that the row does not scrape is as it is now, and need not be looked at again. */
        private boolean isRowFlat(Bench on) {
            for (int plate = 0; plate < shop.plates; plate++) {
                if (!flatNow[plate] && !isScrapedInRow(plate)) {
                    return false;
                }
            }
            for (int plate = 0; plate < shop.plates; plate++) {
                if (isScrapedInRow(plate) && !isFlat(on, plate, bestLimit)) {
                    return false;
                }
            }
            return true;
        }

        private boolean isScrapedInRow(int plate) {
            for (int j = 0; j < bestLength; j++) {
                if (plan.rounds[row[j]].scraped == plate) {
                    return true;
                }
            }
            return false;
        }

        void findDeepest(Round round) {
            laying.put(bench, round.lower, round.upper, round.turn, round.u, round.v);
            int bits = laying.redsToScrape(round);
            deepestDeep = 0;
            for (int deep = 1; deep <= MOST_DEEP; deep++) {
                Bench on = tries[0];
                on.become(bench);
                laying.scrapeCells(on, round.scraped, bits, deep, 0);
                laying.loadPlate(on, round.scraped, 1);
                laying.resting.settle();
                int up = laying.resting.mostGap();
                int down = laying.resting.den;
                if (deepestDeep == 0 || up * deepestDown < deepestUp * down) {
                    deepestDeep = deep;
                    deepestUp = up;
                    deepestDown = down;
                }
            }
        }
    }

    /** What must hold if every round of the order shows red all over, as rows of numbers modulo a prime. */
    private static final class Equations {
        static final int PRIME = 1000003;
        static final int MOST_UNKNOWNS = MOST_PLATES * MOST_CELLS + 3 * MOST_ROUNDS;

        private final Shop shop;
        private final Plan plan;
        private final Laying laying;
        // row c has its first number, a 1, in column c, if there is such a row
        private final int[] rows = new int[MOST_UNKNOWNS * MOST_UNKNOWNS];
        private final boolean[] hasRow = new boolean[MOST_UNKNOWNS];
        private final int[] fresh = new int[MOST_UNKNOWNS];

        Equations(Shop shop, Plan plan, Laying laying) {
            this.shop = shop;
            this.plan = plan;
            this.laying = laying;
        }

        int countUnknowns() {
            return shop.plates * shop.cells() + 3 * plan.count;
        }

        int rank() {
            for (int column = 0; column < MOST_UNKNOWNS; column++) {
                hasRow[column] = false;
            }
            int rank = 0;
            for (int i = 0; i < plan.count; i++) {
                Round round = plan.rounds[i];
                laying.match(round.turn, round.u, round.v);
                for (int pair = 0; pair < laying.pairs; pair++) {
                    write(round, i, pair);
                    if (isNew()) {
                        rank++;
                    }
                }
            }
            return rank;
        }

        /** Both heights less the plane are nothing. */
        private void write(Round round, int i, int pair) {
            Arrays.fill(fresh, 0);
            int cell = laying.lower[pair];
            int plane = shop.plates * shop.cells() + 3 * i;
            fresh[round.lower * shop.cells() + cell] = 1;
            fresh[round.upper * shop.cells() + laying.upper[pair]] = 1;
            fresh[plane] = PRIME - 1;
            fresh[plane + 1] = (PRIME - cell % shop.size) % PRIME;
            fresh[plane + 2] = (PRIME - cell / shop.size) % PRIME;
        }

        /** Takes the known rows from the fresh one; true if something stays, which is then known, too. */
        private boolean isNew() {
            int unknowns = countUnknowns();
            for (int column = 0; column < unknowns; column++) {
                if (fresh[column] == 0) {
                    continue;
                }
                if (!hasRow[column]) {
                    keep(column, unknowns);
                    return true;
                }
                takeRow(column, unknowns);
            }
            return false;
        }

        private void takeRow(int column, int unknowns) {
            long times = PRIME - fresh[column];
            int from = column * MOST_UNKNOWNS;
            for (int c = column; c < unknowns; c++) {
                if (rows[from + c] != 0) {
                    fresh[c] = (int) ((fresh[c] + times * rows[from + c]) % PRIME);
                }
            }
        }

        private void keep(int column, int unknowns) {
            long times = inverse(fresh[column]);
            int from = column * MOST_UNKNOWNS;
            for (int c = column; c < unknowns; c++) {
                rows[from + c] = (int) (times * fresh[c] % PRIME);
            }
            hasRow[column] = true;
        }

        /** By Fermat: the number to the power of the prime less 2. */
        private static long inverse(long number) {
            long power = number;
            long product = 1;
            for (int left = PRIME - 2; left > 0; left >>= 1) {
                if ((left & 1) != 0) {
                    product = product * power % PRIME;
                }
                power = power * power % PRIME;
            }
            return product;
        }
    }

    /** Cuts that were told of one hand, and what that hand can be. */
    private static final class Hand {
        static final int MOST_CUTS = 40;
        static final int MOST_FACTOR = 30;
        static final int MOST_SLIP = 5;

        private final int[] meant = new int[MOST_CUTS];
        private final int[] taken = new int[MOST_CUTS];
        int count;

        int tell(int deep, int much) {
            if (deep < 1 || deep > 9 || much < 0 || much > 99 || count >= MOST_CUTS) {
                return NONE;
            }
            meant[count] = deep;
            taken[count] = much;
            count++;
            return count;
        }

        private boolean letsAll(int factor, int slip) {
            for (int i = 0; i < count; i++) {
                int least = meant[i] * factor / 10;
                if (taken[i] < least || taken[i] > least + slip) {
                    return false;
                }
            }
            return true;
        }

        int countFitting() {
            int fitting = 0;
            for (int slip = 0; slip <= MOST_SLIP; slip++) {
                for (int factor = 1; factor <= MOST_FACTOR; factor++) {
                    if (letsAll(factor, slip)) {
                        fitting++;
                    }
                }
            }
            return fitting;
        }

        int tightest(boolean slipIsAsked) {
            for (int slip = 0; slip <= MOST_SLIP; slip++) {
                for (int factor = 1; factor <= MOST_FACTOR; factor++) {
                    if (letsAll(factor, slip)) {
                        return slipIsAsked ? slip : factor;
                    }
                }
            }
            return NONE;
        }
    }

    /** Sights of an unknown plate, and the worlds that it can be. */
    private static final class Worlds {
        static final int MOST_SIGHTS = 20;
        static final int ALL = 343;
        static final int SPENT_SIZE = 5;

        private final Shop shop;
        private final Bench bench;
        private final Laying laying;
        private final int[] plates = new int[MOST_SIGHTS];
        private final int[] turns = new int[MOST_SIGHTS];
        private final int[] us = new int[MOST_SIGHTS];
        private final int[] vs = new int[MOST_SIGHTS];
        private final int[] reds = new int[MOST_SIGHTS];
        int count;
        final int[] fitting = new int[ALL];
        private int fittingCount;
        private boolean fittingIsFresh;
        private final int[] sets = new int[ALL];
        private final int[] asked = new int[3];
        private boolean askedIsFresh;
        // least off, then most off, upper part ahead of lower part
        private final int[] offs = new int[4];
        private boolean offsAreFresh;

        Worlds(Shop shop, Bench bench, Laying laying) {
            this.shop = shop;
            this.bench = bench;
            this.laying = laying;
        }

        boolean isSpent() {
            return shop.size == SPENT_SIZE;
        }

        void forgetFitting() {
            fittingIsFresh = false;
            askedIsFresh = false;
            offsAreFresh = false;
        }

        void forgetSights() {
            count = 0;
            forgetFitting();
        }

        int tell(int plate, int turn, int u, int v, int bits) {
            if (count >= MOST_SIGHTS) {
                return NONE;
            }
            plates[count] = plate;
            turns[count] = turn;
            us[count] = u;
            vs[count] = v;
            reds[count] = bits;
            count++;
            forgetFitting();
            return count - 1;
        }

        int countFitting() {
            if (!fittingIsFresh) {
                fittingIsFresh = true;
                findFitting();
            }
            return fittingCount;
        }

        private void findFitting() {
            fittingCount = ALL;
            for (int number = 0; number < ALL; number++) {
                fitting[number] = number;
            }
            for (int i = 0; i < count; i++) {
                sift(i);
            }
        }

        private void sift(int i) {
            laying.match(turns[i], us[i], vs[i]);
            bench.copySeems(plates[i], shop.cells(), laying.below);
            int left = 0;
            for (int k = 0; k < fittingCount; k++) {
                if (redsOf(fitting[k]) == reds[i]) {
                    fitting[left] = fitting[k];
                    left++;
                }
            }
            fittingCount = left;
        }

        /** The plate below and how the world lies on it have been put into laying: they serve for many worlds. */
        private int redsOf(int number) {
            fill(number, laying.above);
            laying.loadPairs();
            laying.resting.settle();
            return laying.reds(laying.lower);
        }

        private void fill(int number, int[] into) {
            int p = number / 49 - 3;
            int q = number / 7 % 7 - 3;
            int r = number % 7 - 3;
            for (int cell = 0; cell < shop.cells(); cell++) {
                int x = 2 * (cell % shop.size) - shop.size + 1;
                int y = 2 * (cell / shop.size) - shop.size + 1;
                into[cell] = p * x * x + q * x * y + r * y * y;
            }
        }

        int leastOff(int part) {
            findOffs();
            return (int) lowest(offs[0], offs[1], part);
        }

        int mostOff(int part) {
            findOffs();
            return (int) lowest(offs[2], offs[3], part);
        }

        private void findOffs() {
            if (offsAreFresh) {
                return;
            }
            offsAreFresh = true;
            for (int k = 0; k < fittingCount; k++) {
                fill(fitting[k], laying.above);
                laying.loadAlone(laying.above);
                laying.resting.settle();
                int up = laying.resting.mostGap();
                int down = laying.resting.den;
                if (k == 0 || up * offs[1] < offs[0] * down) {
                    offs[0] = up;
                    offs[1] = down;
                }
                if (k == 0 || up * offs[3] > offs[2] * down) {
                    offs[2] = up;
                    offs[3] = down;
                }
            }
        }

        /** The plate (0), the turn (1) that part the fitting worlds most, and into how many sets (2). */
        int answerAsked(int what) {
            if (!askedIsFresh) {
                askedIsFresh = true;
                findAsked();
            }
            return what >= 0 && what < asked.length ? asked[what] : NONE;
        }

        private void findAsked() {
            asked[2] = 0;
            for (int plate = 0; plate < shop.plates; plate++) {
                for (int turn = 0; turn <= 3; turn++) {
                    int unlike = countUnlike(plate, turn);
                    if (unlike > asked[2]) {
                        asked[0] = plate;
                        asked[1] = turn;
                        asked[2] = unlike;
                    }
                }
            }
        }

        private int countUnlike(int plate, int turn) {
            laying.match(turn, 0, 0);
            bench.copySeems(plate, shop.cells(), laying.below);
            int unlike = 0;
            for (int k = 0; k < fittingCount; k++) {
                int set = redsOf(fitting[k]);
                if (!isAmongSets(set, unlike)) {
                    sets[unlike] = set;
                    unlike++;
                }
            }
            return unlike;
        }

        private boolean isAmongSets(int set, int unlike) {
            for (int k = 0; k < unlike; k++) {
                if (sets[k] == set) {
                    return true;
                }
            }
            return false;
        }
    }
}
