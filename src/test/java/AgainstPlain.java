import java.util.ArrayList;
import java.util.Arrays;
import java.util.HashSet;
import java.util.List;
import java.util.Random;
import java.util.Set;

/**
 * Random runs of calls on ThreePlates and on a model that follows the document's words in the plainest way
 * (all threes of cells are tried, all rows of rounds are tried, nothing is kept from call to call).
 */
public final class AgainstPlain {
    private static int wrong = 0;
    private static long calls = 0;

    public static void main(String[] args) {
        int runs = args.length > 0 ? Integer.parseInt(args[0]) : 700;
        int from = args.length > 1 ? Integer.parseInt(args[1]) : 0;
        for (int seed = from; seed < from + runs && wrong < 20; seed++) {
            new Run(seed).go();
        }
        System.out.println(calls + " calls compared, " + wrong + " wrong");
        if (wrong != 0) {
            System.exit(1);
        }
    }

    /** One random run on both. */
    private static final class Run {
        private final int seed;
        private final Random random;
        private final ThreePlates real = new ThreePlates();
        private final Plain plain = new Plain();
        private final List<String> names = new ArrayList<>();
        private int size = 3;

        Run(int seed) {
            this.seed = seed;
            this.random = new Random(seed);
        }

        void due(String call, long got, long want) {
            calls++;
            if (got != want) {
                wrong++;
                System.out.println("seed " + seed + ": " + call + " answered " + got + ", the plain model " + want);
            }
        }

        int pick(int least, int most) {
            return least + random.nextInt(most - least + 1);
        }

        boolean chance(int percent) {
            return random.nextInt(100) < percent;
        }

        void go() {
            if (chance(80)) {
                feedText(shopText());
                due("shop()", real.shop(), plain.shop());
                checkFault();
            }
            if (chance(80)) {
                feedText(orderText());
                due("order()", real.order(), plain.order());
                checkFault();
            }
            if (chance(4)) {
                goLow();
            }
            int many = pick(20, 60);
            for (int i = 0; i < many && wrong < 20; i++) {
                step();
            }
            for (int plate = 0; plate < 4; plate++) {
                for (int cell = 0; cell < 25; cell++) {
                    due("height " + plate + " " + cell, real.height(plate, cell), plain.height(plate, cell));
                    due("seems " + plate + " " + cell, real.seems(plate, cell), plain.seems(plate, cell));
                }
            }
            for (int what = -1; what <= 9; what++) {
                due("about " + what, real.about(what), plain.about(what));
            }
        }

        /** So many rounds that heights come near -999, then one by one, since that is where they stop. */
        void goLow() {
            feedText("red " + pick(10, 20) + ";slip " + pick(1, 8) + ";plate a" + lowHeights() + "plate b" + lowHeights());
            due("shop", real.shop(), plain.shop());
            feedText("lay a on b turn " + pick(0, 3) + " scrape " + (chance(50) ? "a" : "b") + " deep " + pick(7, 9) + ";");
            due("order", real.order(), plain.order());
            due("run", real.run(100), plain.run(100));
            for (int i = 0; i < 60; i++) {
                due("round", real.round(0), plain.round(0));
                due("iron", real.about(4), plain.about(4));
                due("w", real.about(5), plain.about(5));
            }
        }

        String lowHeights() {
            StringBuilder text = new StringBuilder();
            for (int i = 0; i < 9; i++) {
                text.append(" ").append(v(pick(-99, -90)));
            }
            return text.append(";").toString();
        }

        void checkFault() {
            for (int what = -1; what <= 2; what++) {
                due("fault(" + what + ")", real.fault(what), plain.fault(what));
            }
        }

        void feedText(String text) {
            byte[] bytes = new byte[(text.length() + 19) / 20 * 20];
            Arrays.fill(bytes, (byte) 32);
            for (int i = 0; i < text.length(); i++) {
                bytes[i] = (byte) text.charAt(i);
            }
            for (int i = 0; i < bytes.length; i += 20) {
                int[] n = new int[5];
                for (int k = 0; k < 20; k++) {
                    n[k / 4] = n[k / 4] << 8 | bytes[i + k] & 255;
                }
                due("feed", real.feed(n[0], n[1], n[2], n[3], n[4]), plain.feed(n[0], n[1], n[2], n[3], n[4]));
            }
            int end = text.length() + (chance(3) ? pick(-5, 5) : 0);
            due("end", real.end(end), plain.end(end));
        }

        String blank() {
            return new String[] {" ", " ", " ", "\n", "  "}[random.nextInt(5)];
        }

        String name() {
            return new String[] {"a", "b", "c", "d", "stand", "flat", "abcdefgh", "z"}[random.nextInt(8)];
        }

        String v(int n) {
            return n < 0 ? (chance(10) ? "- " : "-") + -n : "" + n;
        }

        String shopText() {
            names.clear();
            size = pick(3, 5);
            int spread = new int[] {0, 1, 2, 5, 20, 99}[random.nextInt(6)];
            StringBuilder text = new StringBuilder();
            if (size != 3 || chance(50)) {
                text.append("size ").append(size).append(";");
            }
            if (chance(60)) {
                text.append("red ").append(chance(70) ? pick(0, 3) : pick(0, 20)).append(" ; ");
            }
            int plates = pick(0, 8) == 0 ? pick(0, 1) : pick(2, 4);
            for (int p = 0; p < plates; p++) {
                String name = name();
                while (names.contains(name) && !chance(2)) {
                    name = name();
                }
                names.add(name);
                text.append("plate ").append(name);
                for (int i = 0; i < size * size; i++) {
                    text.append(blank()).append(v(pick(-spread, spread)));
                }
                text.append(";").append(chance(30) ? blank() : "");
            }
            if (chance(50)) {
                text.append("slip ").append(pick(0, 8)).append(";");
            }
            return spoil(text.toString());
        }

        String orderText() {
            StringBuilder text = new StringBuilder();
            int rounds = chance(5) ? pick(9, 12) : pick(1, 5);
            for (int i = 0; i < rounds; i++) {
                String upper = anyName();
                String lower = anyName();
                for (int k = 0; k < 20 && lower.equals(upper); k++) {
                    lower = anyName();
                }
                text.append("lay ").append(upper).append(" on ").append(lower).append(" turn ").append(pick(0, 3));
                if (chance(40)) {
                    text.append(" by ").append(v(pick(-1, 1))).append(" ").append(v(pick(-1, 1)));
                }
                text.append(" scrape ").append(chance(50) ? upper : lower).append(" deep ");
                text.append(chance(60) ? pick(1, 3) : pick(1, 9)).append(";").append(chance(20) ? blank() : "");
            }
            return spoil(text.toString());
        }

        String anyName() {
            return names.isEmpty() || chance(1) ? name() : names.get(random.nextInt(names.size()));
        }

        String spoil(String text) {
            if (!chance(20) || text.isEmpty()) {
                return text;
            }
            int at = random.nextInt(text.length());
            String[] bits = {"x", "7", "-", ";", " ", "!", "plate ", "size 4;", "red 1;", "slip 2;", "lay ", "12345",
                "abcdefghi ", "9a", "", "21", "by 1 1 ", "deep", "on", "turn 4", "scrape a", "\t", "100", "-100", "\n",
                "A", "" + (char) 200};
            String bit = bits[random.nextInt(bits.length)];
            int cut = chance(50) ? 0 : Math.min(text.length() - at, pick(1, 4));
            if (chance(10)) {
                return text.substring(0, at);
            }
            return text.substring(0, at) + bit + text.substring(at + cut);
        }

        int plate() {
            return chance(96) && plain.plates > 0 ? random.nextInt(plain.plates) : pick(-1, 4);
        }

        int cell() {
            return chance(96) ? random.nextInt(plain.n * plain.n) : pick(-1, 26);
        }

        int shift() {
            return chance(60) ? 0 : chance(95) ? pick(-1, 1) : pick(-2, 2);
        }

        int turn() {
            return chance(97) ? pick(0, 3) : pick(-1, 4);
        }

        int limit() {
            return chance(60) ? pick(0, 5) : chance(90) ? pick(0, 200) : new int[] {-1, 999, 1000}[random.nextInt(3)];
        }

        int part() {
            return chance(97) ? pick(0, 1) : pick(-1, 3);
        }

        void step() {
            switch (random.nextInt(34)) {
                case 0: case 1: case 2: {
                    int a = plate(), b = plate(), t = turn(), u = shift(), v = shift(), w = part();
                    due("lay", real.lay(a, b, t, u, v, w), plain.lay(a, b, t, u, v, w));
                    for (int c = 0; c < 3; c++) {
                        int cell = cell();
                        due("gap " + a + " " + b + " " + t + " " + u + " " + v + " " + cell + " " + w,
                            real.gap(a, b, t, u, v, cell, w), plain.gap(a, b, t, u, v, cell, w));
                    }
                    due("air", real.air(a, b, t, u, v, w), plain.air(a, b, t, u, v, w));
                    int n = limit();
                    due("lift", real.lift(a, b, t, u, v, n), plain.lift(a, b, t, u, v, n));
                    break;
                }
                case 3: case 4: case 5: {
                    int i = chance(95) && !plain.rounds.isEmpty() ? random.nextInt(plain.rounds.size()) : pick(-1, 10);
                    due("round " + i, real.round(i), plain.round(i));
                    break;
                }
                case 6: {
                    int n = chance(80) ? pick(0, 8) : chance(50) ? pick(100, 301) : pick(-1, 40);
                    if (n > 40 && plain.n == 5 && !chance(20)) {
                        n = 3;
                    }
                    due("run " + n, real.run(n), plain.run(n));
                    break;
                }
                case 7: case 8: {
                    int p = plate(), w = part();
                    due("off", real.off(p, w), plain.off(p, w));
                    due("hole", real.hole(p, w), plain.hole(p, w));
                    int i = pick(-1, 5);
                    boolean row = chance(50);
                    due("edge", real.edge(p, row, i, w), plain.edge(p, row, i, w));
                    break;
                }
                case 9: {
                    int n = limit();
                    due("flat " + n, real.flat(n), plain.flat(n));
                    break;
                }
                case 10: case 11: {
                    int p = plate(), c = cell(), n = chance(95) ? pick(1, 20) : pick(-1, 22);
                    due("warm", real.warm(p, c, n) ? 1 : 0, plain.warm(p, c, n) ? 1 : 0);
                    break;
                }
                case 12: {
                    int m = chance(80) ? pick(0, 20) : new int[] {-1, 1000, 1001}[random.nextInt(3)];
                    due("rest", real.rest(m) ? 1 : 0, plain.rest(m) ? 1 : 0);
                    break;
                }
                case 13: due("hidden", real.hidden(), plain.hidden()); break;
                case 14: due("hides", real.hides(), plain.hides()); break;
                case 15: {
                    int n = limit();
                    if (plain.n < 5 || chance(10)) {
                        due("until " + n, real.until(n), plain.until(n));
                    }
                    break;
                }
                case 16: case 17: {
                    int m = chance(95) ? pick(1, plain.rounds.size() > 3 || plain.n == 5 ? 2 : 3) : pick(0, 4), n = limit();
                    due("best " + m + " " + n, real.best(m, n), plain.best(m, n));
                    for (int j = -1; j <= 3; j++) {
                        due("bestRound " + m + " " + n + " " + j, real.bestRound(m, n, j), plain.bestRound(m, n, j));
                    }
                    break;
                }
                case 18: {
                    int big = chance(50) ? 10 : 10001;
                    int a = pick(-big, big), b = pick(-big, big), c = pick(-big, big), w = pick(-1, 3), t = part();
                    due("square", real.square(a, b, c, w, t), plain.square(a, b, c, w, t));
                    break;
                }
                case 19: case 20: case 21: {
                    int d = pick(0, 10), t = chance(85) ? d * 13 / 10 + pick(0, 2) : pick(-1, 100);
                    due("cut", real.cut(d, t), plain.cut(d, t));
                    due("fits", real.fits(), plain.fits());
                    for (int w = -1; w <= 2; w++) {
                        due("tight", real.tight(w), plain.tight(w));
                    }
                    break;
                }
                case 22: if (chance(30)) { due("clear", real.clear(), plain.clear()); } break;
                case 23: {
                    int p = plate(), a = cell(), b = cell(), c = cell(), s = chance(95) ? pick(0, 9) : pick(-1, 10);
                    due("stand", real.stand(p, a, b, c, s) ? 1 : 0, plain.stand(p, a, b, c, s) ? 1 : 0);
                    break;
                }
                case 24: case 25: {
                    int i = chance(95) && !plain.rounds.isEmpty() ? random.nextInt(plain.rounds.size()) : pick(-1, 10);
                    for (int w = -1; w <= 3; w++) {
                        due("deepest", real.deepest(i, w), plain.deepest(i, w));
                    }
                    break;
                }
                case 26: case 27: {
                    int p = plate(), t = turn(), u = shift(), v = shift();
                    int reds = chance(5) ? pick(-1, 1 << 26) : chance(2) ? random.nextInt() : plain.redsOf(p, t, u, v, random.nextInt(343));
                    due("sight", real.sight(p, t, u, v, reds), plain.sight(p, t, u, v, reds));
                    break;
                }
                case 28: {
                    due("worlds", real.worlds(), plain.worlds());
                    int i = chance(50) ? 0 : pick(-1, 343);
                    due("world", real.world(i), plain.world(i));
                    break;
                }
                case 29: {
                    boolean high = chance(50);
                    int w = part();
                    due("known", real.known(high, w), plain.known(high, w));
                    break;
                }
                case 30: {
                    int w = pick(-1, 3);
                    if (plain.n == 3 || chance(10)) {
                        due("ask", real.ask(w), plain.ask(w));
                    }
                    break;
                }
                case 31: {
                    int w = random.nextInt();
                    due("seed", real.seed(w), plain.seed(w));
                    break;
                }
                case 32: {
                    int b = pick(-1, 3);
                    due("image", real.image(b), plain.image(b));
                    b = pick(-1, 3);
                    due("back", real.back(b), plain.back(b));
                    break;
                }
                default: {
                    if (chance(20)) {
                        feedText(chance(50) ? shopText() : orderText());
                        if (chance(50)) {
                            due("shop()", real.shop(), plain.shop());
                        } else {
                            due("order()", real.order(), plain.order());
                        }
                        checkFault();
                    }
                    break;
                }
            }
        }
    }

    /** A fraction with a lower part above 0, in lowest terms. */
    private record Part(long up, long down) {
        static Part of(long up, long down) {
            long a = Math.abs(up), b = Math.abs(down);
            while (b != 0) {
                long c = a % b;
                a = b;
                b = c;
            }
            long sign = down < 0 ? -1 : 1;
            return new Part(sign * up / a, sign * down / a);
        }

        Part plus(Part o) {
            return of(up * o.down + o.up * down, down * o.down);
        }

        Part minus(Part o) {
            return of(up * o.down - o.up * down, down * o.down);
        }

        Part times(Part o) {
            return of(up * o.up, down * o.down);
        }

        int against(Part o) {
            return Long.compare(up * o.down, o.up * down);
        }

        long get(int part) {
            return part == 0 ? up : down;
        }
    }

    private record Spot(int x, int y, int sum, int lower, int upper) {
    }

    private record Turn(int upper, int lower, int turn, int u, int v, int scraped, int deep) {
    }

    private record Sight(int plate, int turn, int u, int v, int reds) {
    }

    /** The state that an image keeps. */
    private static final class State {
        int[][] height = new int[4][25];
        int[][] warmth = new int[4][25];
        int[][] feet = new int[4][];
        int[] soft = new int[4];
        int strokes;
        int iron;
        int w = 1;

        State copy() {
            State s = new State();
            for (int p = 0; p < 4; p++) {
                s.height[p] = height[p].clone();
                s.warmth[p] = warmth[p].clone();
                s.feet[p] = feet[p] == null ? null : feet[p].clone();
            }
            s.soft = soft.clone();
            s.strokes = strokes;
            s.iron = iron;
            s.w = w;
            return s;
        }
    }

    private record Token(int place, char kind, String text) {
    }

    /** A fault, which ends the reading. */
    private static final class Fault extends RuntimeException {
        private static final long serialVersionUID = 1L;
        final int what;
        final int place;

        Fault(int what, int place) {
            this.what = what;
            this.place = place;
        }
    }

    /** The document's words, plainly. */
    private static final class Plain {
        String tape = "";
        int n = 3;
        int plates;
        int red;
        int slip;
        List<String> names = new ArrayList<>();
        List<Turn> rounds = new ArrayList<>();
        State state = new State();
        State[] boxes = new State[3];
        List<int[]> cuts = new ArrayList<>();
        List<Sight> sights = new ArrayList<>();
        int fault;
        int place = -1;

        // reading
        private List<Token> tokens;
        private int next;

        void tokenize(String text) {
            tokens = new ArrayList<>();
            next = 0;
            int i = 0;
            while (i < text.length()) {
                String left = text.substring(i);
                String word = left.replaceAll("(?s)^([a-z]*).*$", "$1");
                String digits = left.replaceAll("(?s)^([0-9]*).*$", "$1");
                char c = text.charAt(i);
                int length = 1;
                if (c == 32 || c == 10) {
                    i++;
                    continue;
                }
                if (!word.isEmpty()) {
                    length = word.length();
                    tokens.add(new Token(i, length <= 8 ? 'w' : '?', word));
                } else if (!digits.isEmpty()) {
                    length = digits.length();
                    boolean good = length <= 4 && !left.substring(length).matches("(?s)[a-z].*");
                    tokens.add(new Token(i, good ? 'n' : '?', digits));
                } else {
                    tokens.add(new Token(i, c == ';' || c == '-' ? c : '?', "" + c));
                }
                i += length;
            }
            tokens.add(new Token(text.length(), '.', ""));
        }

        Token now() {
            return tokens.get(next);
        }

        Fault cantStand() {
            return new Fault(now().kind == '?' ? 1 : 2, now().place);
        }

        boolean isNow(String word) {
            return now().kind == 'w' && now().text.equals(word);
        }

        void take(String word) {
            if (!isNow(word)) {
                throw cantStand();
            }
            next++;
        }

        void takeStop() {
            if (now().kind != ';') {
                throw cantStand();
            }
            next++;
        }

        Token takeName() {
            Set<String> own = Set.of("size", "plate", "red", "slip", "lay", "on", "turn", "by", "scrape", "deep");
            if (now().kind != 'w' || own.contains(now().text)) {
                throw cantStand();
            }
            return tokens.get(next++);
        }

        int takeNumber(boolean signed, int least, int most) {
            int at = now().place;
            int sign = 1;
            if (signed && now().kind == '-') {
                sign = -1;
                next++;
            }
            if (now().kind != 'n') {
                throw cantStand();
            }
            int number = sign * Integer.parseInt(tokens.get(next++).text);
            if (number < least || number > most) {
                throw new Fault(4, at);
            }
            return number;
        }

        int feed(int... five) {
            if (tape.length() + 20 > 1200) {
                return -1;
            }
            for (int four : five) {
                for (int k = 3; k >= 0; k--) {
                    tape += (char) (four >> 8 * k & 255);
                }
            }
            return tape.length();
        }

        int end(int k) {
            if (k < 0 || k > tape.length()) {
                return -1;
            }
            tape = tape.substring(0, k);
            return k;
        }

        int shop() {
            tokenize(tape);
            tape = "";
            fault = 0;
            place = -1;
            Plain fresh = new Plain();
            Set<String> told = new HashSet<>();
            try {
                while (now().kind != '.') {
                    String word = now().kind == 'w' ? now().text : "";
                    if (word.equals("plate") && fresh.plates < 4) {
                        told.add("size");
                        next++;
                        Token name = takeName();
                        if (fresh.names.contains(name.text)) {
                            throw new Fault(3, name.place);
                        }
                        for (int c = 0; c < fresh.n * fresh.n; c++) {
                            fresh.state.height[fresh.plates][c] = takeNumber(true, -99, 99);
                        }
                        fresh.names.add(name.text);
                        fresh.plates++;
                    } else if (word.equals("size") && told.add("size")) {
                        next++;
                        fresh.n = takeNumber(false, 3, 5);
                    } else if (word.equals("red") && told.add("red")) {
                        next++;
                        fresh.red = takeNumber(false, 0, 20);
                    } else if (word.equals("slip") && told.add("slip")) {
                        next++;
                        fresh.slip = takeNumber(false, 0, 8);
                    } else {
                        throw cantStand();
                    }
                    takeStop();
                }
            } catch (Fault f) {
                fault = f.what;
                place = f.place;
                return -1;
            }
            n = fresh.n;
            plates = fresh.plates;
            red = fresh.red;
            slip = fresh.slip;
            names = fresh.names;
            fresh.state.w = state.w;
            state = fresh.state;
            rounds = new ArrayList<>();
            boxes = new State[3];
            sights.clear();
            return plates;
        }

        int plateOf(Token name) {
            int plate = names.indexOf(name.text);
            if (plate < 0) {
                throw new Fault(5, name.place);
            }
            return plate;
        }

        int order() {
            if (tape.length() > 500) {
                return -2;
            }
            tokenize(tape);
            tape = "";
            fault = 0;
            place = -1;
            List<Turn> fresh = new ArrayList<>();
            try {
                while (now().kind != '.') {
                    if (fresh.size() == 10) {
                        throw cantStand();
                    }
                    take("lay");
                    int upper = plateOf(takeName());
                    take("on");
                    Token second = takeName();
                    int lower = plateOf(second);
                    if (lower == upper) {
                        throw new Fault(5, second.place);
                    }
                    take("turn");
                    int turn = takeNumber(false, 0, 3);
                    int u = 0;
                    int v = 0;
                    if (isNow("by")) {
                        next++;
                        u = takeNumber(true, -1, 1);
                        v = takeNumber(true, -1, 1);
                    }
                    take("scrape");
                    Token third = takeName();
                    int scraped = plateOf(third);
                    if (scraped != upper && scraped != lower) {
                        throw new Fault(5, third.place);
                    }
                    take("deep");
                    int deep = takeNumber(false, 1, 9);
                    takeStop();
                    fresh.add(new Turn(upper, lower, turn, u, v, scraped, deep));
                }
            } catch (Fault f) {
                fault = f.what;
                place = f.place;
                return -1;
            }
            rounds = fresh;
            return rounds.size();
        }

        int fault(int what) {
            return what == 0 ? fault : what == 1 ? place : -1;
        }

        boolean isPlate(int p) {
            return p >= 0 && p < plates;
        }

        boolean isCell(int c) {
            return c >= 0 && c < n * n;
        }

        int height(int p, int c) {
            return isPlate(p) && isCell(c) ? state.height[p][c] : -100000;
        }

        int seems(int p, int c) {
            if (!isPlate(p) || !isCell(c)) {
                return -100000;
            }
            int sag = 0;
            if (state.feet[p] != null) {
                int least = Integer.MAX_VALUE;
                for (int foot : state.feet[p]) {
                    int dx = foot % n - c % n;
                    int dy = foot / n - c / n;
                    least = Math.min(least, dx * dx + dy * dy);
                }
                sag = state.soft[p] * least / 4;
            }
            return state.height[p][c] + state.warmth[p][c] - sag;
        }

        int[] seemsAll(int p) {
            int[] all = new int[n * n];
            for (int c = 0; c < n * n; c++) {
                all[c] = seems(p, c);
            }
            return all;
        }

        /** The cells of a with one of b over them, by the numbers of a. */
        List<Spot> meet(int[] a, int[] b, int t, int u, int v) {
            List<Spot> spots = new ArrayList<>();
            for (int y = 0; y < n; y++) {
                for (int x = 0; x < n; x++) {
                    for (int c = 0; c < n * n; c++) {
                        int bx = n - 1 - c % n;
                        int by = c / n;
                        for (int k = 0; k < t; k++) {
                            int was = bx;
                            bx = n - 1 - by;
                            by = was;
                        }
                        if (bx + u == x && by + v == y) {
                            spots.add(new Spot(x, y, a[n * y + x] + b[c], n * y + x, c));
                        }
                    }
                }
            }
            return spots;
        }

        List<Spot> alone(int[] heights, int sign) {
            List<Spot> spots = new ArrayList<>();
            for (int c = 0; c < n * n; c++) {
                spots.add(new Spot(c % n, c / n, sign * heights[c], c, c));
            }
            return spots;
        }

        /** The gaps below the plane that rests, all threes tried. */
        static List<Part> gaps(List<Spot> spots) {
            int m = spots.size();
            int tx = 0;
            int ty = 0;
            for (Spot s : spots) {
                tx += s.x;
                ty += s.y;
            }
            long[] best = null;
            long bestUp = 0;
            for (int i = 0; i < m; i++) {
                for (int j = i + 1; j < m; j++) {
                    for (int k = j + 1; k < m; k++) {
                        long[] plane = plane(spots.get(i), spots.get(j), spots.get(k));
                        if (plane == null) {
                            continue;
                        }
                        // over the middle, times m and the lower part
                        long up = plane[0] * m + plane[1] * tx + plane[2] * ty;
                        if (best != null && up * best[3] >= bestUp * plane[3]) {
                            continue;
                        }
                        boolean above = true;
                        for (Spot s : spots) {
                            above &= plane[0] + plane[1] * s.x + plane[2] * s.y >= plane[3] * s.sum;
                        }
                        if (above) {
                            best = plane;
                            bestUp = up;
                        }
                    }
                }
            }
            List<Part> gaps = new ArrayList<>();
            for (Spot s : spots) {
                gaps.add(Part.of(best[0] + best[1] * s.x + best[2] * s.y - best[3] * s.sum, best[3]));
            }
            return gaps;
        }

        /** The plane c + a * x + b * y over one lower part above 0, by Cramer's rule. */
        static long[] plane(Spot i, Spot j, Spot k) {
            long d = det(1, i.x, i.y, 1, j.x, j.y, 1, k.x, k.y);
            if (d == 0) {
                return null;
            }
            long c = det(i.sum, i.x, i.y, j.sum, j.x, j.y, k.sum, k.x, k.y);
            long a = det(1, i.sum, i.y, 1, j.sum, j.y, 1, k.sum, k.y);
            long b = det(1, i.x, i.sum, 1, j.x, j.sum, 1, k.x, k.sum);
            long s = d < 0 ? -1 : 1;
            return new long[] {s * c, s * a, s * b, s * d};
        }

        static long det(long a, long b, long c, long d, long e, long f, long g, long h, long i) {
            return a * (e * i - f * h) - b * (d * i - f * g) + c * (d * h - e * g);
        }

        static Part greatest(List<Part> parts) {
            Part most = parts.get(0);
            for (Part p : parts) {
                most = p.against(most) > 0 ? p : most;
            }
            return most;
        }

        static Part total(List<Part> parts) {
            Part all = new Part(0, 1);
            for (Part p : parts) {
                all = all.plus(p);
            }
            return all;
        }

        boolean canLie(int a, int b, int t, int u, int v) {
            return isPlate(a) && isPlate(b) && a != b && t >= 0 && t <= 3 && Math.abs(u) <= 1 && Math.abs(v) <= 1;
        }

        boolean isPart(int part) {
            return part == 0 || part == 1;
        }

        boolean isLimit(int k) {
            return k >= 0 && k <= 999;
        }

        int lay(int a, int b, int t, int u, int v, int what) {
            if (!canLie(a, b, t, u, v) || !isPart(what)) {
                return -1;
            }
            List<Part> gaps = gaps(meet(seemsAll(a), seemsAll(b), t, u, v));
            int reds = 0;
            for (Part gap : gaps) {
                reds += gap.against(new Part(red, 1)) <= 0 ? 1 : 0;
            }
            return what == 0 ? reds : gaps.size();
        }

        int gap(int a, int b, int t, int u, int v, int cell, int part) {
            if (!canLie(a, b, t, u, v) || !isPart(part) || !isCell(cell)) {
                return -1;
            }
            List<Spot> spots = meet(seemsAll(a), seemsAll(b), t, u, v);
            List<Part> gaps = gaps(spots);
            for (int k = 0; k < spots.size(); k++) {
                if (spots.get(k).lower == cell) {
                    return (int) gaps.get(k).get(part);
                }
            }
            return -1;
        }

        long air(int a, int b, int t, int u, int v, int part) {
            if (!canLie(a, b, t, u, v) || !isPart(part)) {
                return -1;
            }
            return total(gaps(meet(seemsAll(a), seemsAll(b), t, u, v))).get(part);
        }

        int lift(int a, int b, int t, int u, int v, int k) {
            if (!canLie(a, b, t, u, v) || !isLimit(k)) {
                return -1;
            }
            return greatest(gaps(meet(seemsAll(a), seemsAll(b), t, u, v))).against(new Part(k, 1)) <= 0 ? 1 : 0;
        }

        Set<Integer> redsToScrape(Turn r) {
            List<Spot> spots = meet(seemsAll(r.lower), seemsAll(r.upper), r.turn, r.u, r.v);
            List<Part> gaps = gaps(spots);
            Set<Integer> reds = new HashSet<>();
            for (int k = 0; k < spots.size(); k++) {
                if (gaps.get(k).against(new Part(red, 1)) <= 0) {
                    reds.add(r.scraped == r.upper ? spots.get(k).upper : spots.get(k).lower);
                }
            }
            return reds;
        }

        int doRound(Turn r, int deep, int slips) {
            Set<Integer> reds = redsToScrape(r);
            int[] h = state.height[r.scraped];
            int strokes = 0;
            for (int c = 0; c < n * n; c++) {
                if (!reds.contains(c) || h[c] < -999) {
                    continue;
                }
                h[c] -= deep;
                state.iron += deep;
                strokes++;
                if (slips == 0) {
                    continue;
                }
                state.w = state.w * 1103515245 + 12345;
                if ((state.w >>> 16) % 8 < slips) {
                    if (h[c] >= -999) {
                        h[c]--;
                        state.iron++;
                    }
                    if (c % n + 1 < n && h[c + 1] >= -999) {
                        h[c + 1]--;
                        state.iron++;
                    }
                }
            }
            state.strokes += strokes;
            return strokes;
        }

        int round(int i) {
            if (i < 0 || i >= rounds.size()) {
                return -1;
            }
            return doRound(rounds.get(i), rounds.get(i).deep, slip);
        }

        int run(int k) {
            if (k < 0 || k > 300 || rounds.isEmpty()) {
                return -1;
            }
            for (int i = 0; i < k; i++) {
                round(i % rounds.size());
            }
            return state.strokes;
        }

        Part offOf(int[] heights) {
            return greatest(gaps(alone(heights, 1)));
        }

        int off(int p, int part) {
            return isPlate(p) && isPart(part) ? (int) offOf(state.height[p]).get(part) : -1;
        }

        int flat(int k) {
            if (!isLimit(k)) {
                return -1;
            }
            for (int p = 0; p < plates; p++) {
                if (offOf(state.height[p]).against(new Part(k, 1)) > 0) {
                    return 0;
                }
            }
            return 1;
        }

        boolean warm(int p, int c, int k) {
            if (!isPlate(p) || !isCell(c) || k < 1 || k > 20) {
                return false;
            }
            for (int o = 0; o < n * n; o++) {
                int far = Math.abs(o % n - c % n) + Math.abs(o / n - c / n);
                int more = far == 0 ? k : far == 1 ? k / 2 : 0;
                state.warmth[p][o] = Math.min(99, state.warmth[p][o] + more);
            }
            return true;
        }

        boolean rest(int minutes) {
            if (minutes < 0 || minutes > 1000) {
                return false;
            }
            for (int k = 0; k < minutes; k++) {
                for (int[] row : state.warmth) {
                    for (int c = 0; c < 25; c++) {
                        row[c] -= row[c] > 0 ? 1 : 0;
                    }
                }
            }
            return true;
        }

        int hidden() {
            long prime = 1000003;
            int unknowns = plates * n * n + 3 * rounds.size();
            List<long[]> rows = new ArrayList<>();
            int[] none = new int[n * n];
            for (int i = 0; i < rounds.size(); i++) {
                Turn r = rounds.get(i);
                for (Spot s : meet(none, none, r.turn, r.u, r.v)) {
                    long[] row = new long[unknowns];
                    row[r.lower * n * n + s.lower] += 1;
                    row[r.upper * n * n + s.upper] += 1;
                    int at = plates * n * n + 3 * i;
                    row[at] = prime - 1;
                    row[at + 1] = (prime - s.x) % prime;
                    row[at + 2] = (prime - s.y) % prime;
                    rows.add(row);
                }
            }
            int rank = 0;
            for (int c = unknowns - 1; c >= 0; c--) {
                int found = -1;
                for (int r = rank; r < rows.size() && found < 0; r++) {
                    found = rows.get(r)[c] != 0 ? r : -1;
                }
                if (found < 0) {
                    continue;
                }
                long[] pivot = rows.get(found);
                rows.set(found, rows.get(rank));
                rows.set(rank, pivot);
                for (int r = rank + 1; r < rows.size(); r++) {
                    long[] row = rows.get(r);
                    long times = row[c];
                    if (times != 0) {
                        for (int k = 0; k < unknowns; k++) {
                            row[k] = Math.floorMod(row[k] * pivot[c] - times * pivot[k], prime);
                        }
                    }
                }
                rank++;
            }
            return unknowns - rank - 3 * plates;
        }

        int hides() {
            if (rounds.isEmpty()) {
                return -1;
            }
            for (Turn r : rounds) {
                List<Spot> spots = meet(seemsAll(r.lower), seemsAll(r.upper), r.turn, r.u, r.v);
                for (Part gap : gaps(spots)) {
                    if (gap.against(new Part(red, 1)) > 0) {
                        return 0;
                    }
                }
            }
            return 1;
        }

        int until(int k) {
            if (!isLimit(k) || rounds.isEmpty()) {
                return -1;
            }
            State was = state.copy();
            int answer = -1;
            for (int done = 0; done <= 300; done++) {
                if (flat(k) == 1) {
                    answer = done;
                    break;
                }
                round(done % rounds.size());
            }
            state = was;
            return answer;
        }

        int[] bestRow;

        int best(int m, int k) {
            bestRow = null;
            if (m < 1 || m > 3 || !isLimit(k) || rounds.isEmpty()) {
                return -1;
            }
            State was = state.copy();
            int r = rounds.size();
            int rows = (int) Math.pow(r, m);
            int least = -1;
            for (int number = 0; number < rows; number++) {
                state = was.copy();
                int[] row = m == 1 ? new int[] {number} : m == 2 ? new int[] {number / r, number % r}
                    : new int[] {number / r / r, number / r % r, number % r};
                for (int i : row) {
                    round(i);
                }
                int iron = state.iron - was.iron;
                if ((least < 0 || iron < least) && flat(k) == 1) {
                    least = iron;
                    bestRow = row;
                }
            }
            state = was;
            return least;
        }

        int bestRound(int m, int k, int j) {
            best(m, k);
            return bestRow == null || j < 0 || j >= m ? -1 : bestRow[j];
        }

        long hole(int p, int part) {
            return isPlate(p) && isPart(part) ? total(gaps(alone(state.height[p], -1))).get(part) : -1;
        }

        int edge(int p, boolean row, int i, int part) {
            if (!isPlate(p) || !isPart(part) || i < 0 || i >= n) {
                return -1;
            }
            int[] h = new int[n];
            for (int k = 0; k < n; k++) {
                h[k] = state.height[p][row ? n * i + k : n * k + i];
            }
            Part lowest = null;
            Part answer = null;
            for (int a = 0; a < n; a++) {
                for (int b = a + 1; b < n; b++) {
                    Part slope = Part.of(h[b] - h[a], b - a);
                    Part most = new Part(0, 1);
                    boolean above = true;
                    for (int k = 0; k < n; k++) {
                        Part gap = new Part(h[a] - h[k], 1).plus(slope.times(new Part(k - a, 1)));
                        above &= gap.up >= 0;
                        most = gap.against(most) > 0 ? gap : most;
                    }
                    Part middle = new Part(h[a], 1).plus(slope.times(Part.of(n - 1 - 2 * a, 2)));
                    if (above && (lowest == null || middle.against(lowest) < 0)) {
                        lowest = middle;
                        answer = most;
                    }
                }
            }
            return (int) answer.get(part);
        }

        int square(int ab, int bc, int ca, int which, int part) {
            for (int shown : new int[] {ab, bc, ca}) {
                if (Math.abs(shown) > 9999) {
                    return -100000;
                }
            }
            if (which < 0 || which > 2 || !isPart(part)) {
                return -100000;
            }
            int[][] own = {{ab, ca, bc}, {ab, bc, ca}, {bc, ca, ab}};
            return (int) Part.of(own[which][0] + own[which][1] - own[which][2], 2).get(part);
        }

        int cut(int deep, int taken) {
            if (deep < 1 || deep > 9 || taken < 0 || taken > 99 || cuts.size() == 40) {
                return -1;
            }
            cuts.add(new int[] {deep, taken});
            return cuts.size();
        }

        int clear() {
            int were = cuts.size();
            cuts.clear();
            return were;
        }

        List<int[]> pairs() {
            List<int[]> pairs = new ArrayList<>();
            for (int s = 0; s <= 5; s++) {
                for (int f = 1; f <= 30; f++) {
                    boolean good = true;
                    for (int[] cut : cuts) {
                        good &= cut[1] >= cut[0] * f / 10 && cut[1] <= cut[0] * f / 10 + s;
                    }
                    if (good) {
                        pairs.add(new int[] {s, f});
                    }
                }
            }
            return pairs;
        }

        int fits() {
            return pairs().size();
        }

        int tight(int what) {
            return pairs().isEmpty() || !isPart(what) ? -1 : pairs().get(0)[what];
        }

        boolean stand(int p, int a, int b, int c, int soft) {
            if (!isPlate(p) || !isCell(a) || !isCell(b) || !isCell(c) || a == b || b == c || a == c) {
                return false;
            }
            if (soft < 0 || soft > 9) {
                return false;
            }
            state.feet[p] = new int[] {a, b, c};
            state.soft[p] = soft;
            return true;
        }

        int deepest(int i, int what) {
            if (i < 0 || i >= rounds.size() || what < 0 || what > 2) {
                return -1;
            }
            Turn r = rounds.get(i);
            State was = state.copy();
            Part least = null;
            int answer = 0;
            for (int deep = 1; deep <= 9; deep++) {
                state = was.copy();
                doRound(r, deep, 0);
                Part off = offOf(state.height[r.scraped]);
                if (least == null || off.against(least) < 0) {
                    least = off;
                    answer = deep;
                }
            }
            state = was;
            return what == 0 ? answer : (int) least.get(what - 1);
        }

        int[] heightsOf(int number) {
            int p = number / 49 - 3;
            int q = number / 7 % 7 - 3;
            int r = number % 7 - 3;
            int[] h = new int[n * n];
            for (int c = 0; c < n * n; c++) {
                int x = 2 * (c % n) - n + 1;
                int y = 2 * (c / n) - n + 1;
                h[c] = p * x * x + q * x * y + r * y * y;
            }
            return h;
        }

        int redsOf(int plate, int t, int u, int v, int number) {
            if (!isPlate(plate) || t < 0 || t > 3 || Math.abs(u) > 1 || Math.abs(v) > 1) {
                return 0;
            }
            List<Spot> spots = meet(seemsAll(plate), heightsOf(number), t, u, v);
            List<Part> gaps = gaps(spots);
            int bits = 0;
            for (int k = 0; k < spots.size(); k++) {
                bits |= gaps.get(k).against(new Part(red, 1)) <= 0 ? 1 << spots.get(k).lower : 0;
            }
            return bits;
        }

        int sight(int plate, int t, int u, int v, int reds) {
            boolean can = isPlate(plate) && t >= 0 && t <= 3 && Math.abs(u) <= 1 && Math.abs(v) <= 1;
            if (!can || reds < 0 || reds > (1 << n * n) - 1 || sights.size() == 20) {
                return -1;
            }
            sights.add(new Sight(plate, t, u, v, reds));
            return sights.size() - 1;
        }

        List<Integer> fitting() {
            List<Integer> fitting = new ArrayList<>();
            for (int number = 0; number < 343; number++) {
                boolean good = true;
                for (Sight s : sights) {
                    good = good && redsOf(s.plate, s.turn, s.u, s.v, number) == s.reds;
                }
                if (good) {
                    fitting.add(number);
                }
            }
            return fitting;
        }

        int worlds() {
            return n == 5 ? -2 : fitting().size();
        }

        int world(int i) {
            if (n == 5) {
                return -1;
            }
            List<Integer> fitting = fitting();
            return i < 0 || i >= fitting.size() ? -1 : fitting.get(i);
        }

        int known(boolean high, int part) {
            if (!isPart(part)) {
                return -1;
            }
            if (n == 5) {
                return -2;
            }
            Part answer = null;
            for (int number : fitting()) {
                Part off = offOf(heightsOf(number));
                if (answer == null || (high ? off.against(answer) > 0 : off.against(answer) < 0)) {
                    answer = off;
                }
            }
            return answer == null ? -1 : (int) answer.get(part);
        }

        int ask(int what) {
            if (what < 0 || what > 2 || plates == 0) {
                return -1;
            }
            if (n == 5) {
                return -2;
            }
            List<Integer> fitting = fitting();
            int[] best = {-1, -1, 0};
            for (int p = 0; p < plates; p++) {
                for (int t = 0; t < 4; t++) {
                    Set<Integer> sets = new HashSet<>();
                    for (int number : fitting) {
                        sets.add(redsOf(p, t, 0, 0, number));
                    }
                    if (sets.size() > best[2]) {
                        best = new int[] {p, t, sets.size()};
                    }
                }
            }
            return fitting.isEmpty() ? -1 : best[what];
        }

        int seed(int w) {
            int was = state.w;
            state.w = w;
            return was;
        }

        int image(int box) {
            if (box < 0 || box > 2) {
                return -1;
            }
            boxes[box] = state.copy();
            return plates;
        }

        int back(int box) {
            if (box < 0 || box > 2 || boxes[box] == null) {
                return -1;
            }
            state = boxes[box].copy();
            return plates;
        }

        int about(int what) {
            int[] all = {plates, n, rounds.size(), state.strokes, state.iron, state.w, tape.length(), cuts.size(),
                sights.size()};
            return what < 0 || what > 8 ? -1 : all[what];
        }
    }
}
