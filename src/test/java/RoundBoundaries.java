/** The boundaries of rounds that are done: promises 13 and 14. */
final class RoundBoundaries extends Checks {
    private static final String DEEP_NINE = "lay b on a turn 0 scrape a deep 9;";

    private RoundBoundaries() {
    }

    /** w behind a draw, by numbers that do not wrap. */
    private static int drawn(int w) {
        return (int) (((w & 0xffffffffL) * 1103515245L + 12345L) % 4294967296L);
    }

    /** The draw of eight that w tells. */
    private static int eighth(int w) {
        return (int) ((w & 0xffffffffL) / 65536 % 8);
    }

    /** A w behind which the first draw is so much. */
    private static int seedFor(int draw) {
        int w = 0;
        while (eighth(drawn(w)) != draw) {
            w++;
        }
        return w;
    }

    @Says("NONE, doing nothing, if there is none such.")
    static void promise13RoundRefused() {
        ThreePlates x = make("slip 8;" + TWO, LAY + LAY);
        for (int i : new int[] {-1, 2, 10, Integer.MIN_VALUE, Integer.MAX_VALUE}) {
            due("round " + i, x.round(i), -1);
        }
        dueAbout("behind what was refused", x, 2, 3, 2, 0, 0, 1);
        due("height", x.height(0, 0), 0);
        due("the first", x.round(0), 9);
        due("the last", x.round(1) > 0, true);
        due("without an order", make(TWO, "").round(0), -1);
        due("without plates", new ThreePlates().round(0), -1);
    }

    @Says("ROUND i of the ORDER is done: how many STROKES it made")
    static void promise13RoundWithoutStrokes() {
        // b lies over 1, 2, 4, 5, 7, 8 of a; those of a are too low, so that no stroke is made
        ThreePlates x = make(TWO, "lay b on a turn 0 by 1 0 scrape a deep 9;");
        due("run", x.run(112), 672);
        due("no stroke", x.round(0), 0);
        due("iron", x.about(4), 6048);
        due("strokes", x.about(3), 672);
    }

    @Says("each of its CELLS that is RED (by its own numbers, one behind the other) gets deep less")
    static void promise13RoundByItsOwnNumbers() {
        // b's cells lie mirrored over a's: b's draws go by b's numbers
        ThreePlates x = make("slip 4;plate a" + ZEROS + "plate b" + ZEROS, "lay b on a turn 1 scrape b deep 2;");
        int w = 1;
        int[] want = new int[9];
        for (int cell = 0; cell < 9; cell++) {
            w = drawn(w);
            want[cell] -= 2;
            if (eighth(w) < 4) {
                want[cell]--;
                if (cell % 3 < 2) {
                    want[cell + 1]--;
                }
            }
        }
        due("round", x.round(0), 9);
        int iron = 0;
        for (int cell = 0; cell < 9; cell++) {
            due("cell " + cell, x.height(1, cell), want[cell]);
            due("a stays", x.height(0, cell), 0);
            iron -= want[cell];
        }
        due("iron", x.about(4), iron);
        due("w", x.about(5), w);
    }

    @Says("each of its CELLS that is RED (by its own numbers, one behind the other) gets deep less")
    static void promise13RoundRedAheadOfScraping() {
        // all are red at first, and stay so for this round, whatever the slips make of them
        ThreePlates x = make("slip 8;" + TWO, DEEP_NINE);
        due("round", x.round(0), 9);
        int[] want = {-10, -11, -11};
        for (int cell = 0; cell < 9; cell++) {
            due("cell " + cell, x.height(0, cell), want[cell % 3]);
        }
    }

    @Says("if a DRAW of 8 is below slip, 1 less more")
    static void promise13RoundDrawAtTheSlip() {
        for (int slip = 1; slip <= 8; slip++) {
            for (int draw = 0; draw < 8; draw++) {
                ThreePlates x = make("slip " + slip + ";" + TWO, LAY);
                x.seed(seedFor(draw));
                due("round", x.round(0), 9);
                due("slip " + slip + ", draw " + draw, x.height(0, 0), draw < slip ? -2 : -1);
            }
        }
    }

    @Says("the next CELL of its row, if there is one, gets 1 less, too.")
    static void promise13RoundSlipsNotOverTheRowsEnd() {
        for (int size = 3; size <= 5; size++) {
            String heights = all(0, size * size);
            ThreePlates x = make("size " + size + ";slip 8;plate a" + heights + "plate b" + heights, LAY);
            due("round", x.round(0), size * size);
            for (int cell = 0; cell < size * size; cell++) {
                due("cell " + cell, x.height(0, cell), cell % size == 0 ? -2 : -3);
            }
            for (int cell = 0; cell < size * size; cell++) {
                due("no other plate", x.height(1, cell), 0);
            }
            due("iron", x.about(4), size * (3 * size - 1));
        }
    }

    @Says("the next CELL of its row, if there is one, gets 1 less, too.")
    static void promise13RoundSlipsOntoACellThatIsNotRed() {
        // the middle is a dip: it gets 1 less by cell 3 alone, and none by its own
        ThreePlates x = make("slip 8;plate a 0 0 0 0 -9 0 0 0 0;plate b" + ZEROS, LAY);
        due("round", x.round(0), 8);
        due("cell 3", x.height(0, 3), -2);
        due("cell 4", x.height(0, 4), -10);
        due("cell 5, behind one that was not scraped", x.height(0, 5), -2);
        due("iron: eight times 2, and five slips onto the next one", x.about(4), 21);
        int w = 1;
        for (int i = 0; i < 8; i++) {
            w = drawn(w);
        }
        due("eight draws", x.about(5), w);
    }

    @Says("STROKES: CELLS that were scraped (SLIPS not counted); IRON: all that was taken.")
    static void promise13RoundSlipsAreNoStrokes() {
        ThreePlates x = make("slip 8;" + TWO, DEEP_NINE);
        due("round", x.round(0), 9);
        due("strokes", x.about(3), 9);
        due("iron: 9 times 9 and 1, and six slips more", x.about(4), 96);
    }

    @Says("w becomes w * 1103515245 + 12345 (wrapping; 1 at first); (w >>> 16) modulo n.")
    static void promise13RoundDrawsWrap() {
        due("1 at first", new ThreePlates().about(5), 1);
        for (int seed : new int[] {1, 0, -1, 2, Integer.MAX_VALUE, Integer.MIN_VALUE, 123456789, -987654321}) {
            ThreePlates x = make("slip 3;" + TWO, LAY);
            due("seed", x.seed(seed), 1);
            int w = seed;
            int iron = 0;
            for (int cell = 0; cell < 9; cell++) {
                w = drawn(w);
                iron += 1 + (eighth(w) >= 3 ? 0 : cell % 3 < 2 ? 2 : 1);
            }
            due("round", x.round(0), 9);
            due("w from " + seed, x.about(5), w);
            due("iron from " + seed, x.about(4), iron);
        }
    }

    @Says("(Without slip nothing is drawn.)")
    static void promise13RoundWithoutSlip() {
        for (String slip : new String[] {"", "slip 0;"}) {
            ThreePlates x = make(slip + TWO, LAY);
            x.seed(5);
            due("round", x.round(0), 9);
            due("w", x.about(5), 5);
            due("iron", x.about(4), 9);
        }
    }

    @Says("A height below -999 gets no less (no STROKE, no DRAW, no IRON for it).")
    static void promise13RoundBelowLowest() {
        ThreePlates x = make(TWO, DEEP_NINE);
        due("run", x.run(111), 999);
        due("-999 is not below", x.height(0, 0), -999);
        due("a stroke", x.round(0), 9);
        due("height", x.height(0, 0), -1008);
        due("iron", x.about(4), 9072);
        due("no stroke", x.round(0), 0);
        due("height", x.height(0, 0), -1008);
        dueAbout("too low", x, 2, 3, 1, 1008, 9072, 1);
    }

    @Says("A height below -999 gets no less (no STROKE, no DRAW, no IRON for it).")
    static void promise13RoundAtJustBelowLowest() {
        // 999 rounds of deep 1 and one more
        ThreePlates x = make(TWO, LAY);
        for (int i = 0; i < 3; i++) {
            x.run(300);
        }
        due("run", x.run(99), 9 * 999);
        due("height", x.height(0, 8), -999);
        due("one more", x.round(0), 9);
        due("height", x.height(0, 8), -1000);
        due("none more", x.round(0), 0);
        due("height", x.height(0, 8), -1000);
        due("strokes", x.about(3), 9000);
        due("iron", x.about(4), 9000);
    }

    @Says("A height below -999 gets no less (no STROKE, no DRAW, no IRON for it).")
    static void promise13RoundDrawsNothingBelowLowest() {
        ThreePlates x = make("slip 8;" + TWO, DEEP_NINE);
        x.run(300);
        int w = x.about(5);
        int strokes = x.about(3);
        int iron = x.about(4);
        due("round", x.round(0), 0);
        dueAbout("nothing done", x, 2, 3, 1, strokes, iron, w);
    }

    /** A w behind which, of nine draws, none is 0, or the first alone. */
    private static int seedForSlip(boolean first) {
        for (int seed = 0;; seed++) {
            int w = seed;
            boolean good = true;
            for (int i = 0; i < 9; i++) {
                w = drawn(w);
                good &= (eighth(w) == 0) == (first && i == 0);
            }
            if (good) {
                return seed;
            }
        }
    }

    /** Behind 111 rounds by deep 9 without a slip, each cell of a 999 below its height; the next draw alone slips. */
    private static ThreePlates worn(String heights) {
        ThreePlates x = make("red 20;slip 1;plate a" + heights + "plate b" + ZEROS, DEEP_NINE);
        for (int i = 0; i < 111; i++) {
            x.seed(seedForSlip(false));
            due("round", x.round(0), 9);
        }
        due("iron", x.about(4), 8991);
        x.seed(seedForSlip(true));
        return x;
    }

    private static void dueHeights(ThreePlates x, int... want) {
        for (int cell = 0; cell < want.length; cell++) {
            due("cell " + cell, x.height(0, cell), want[cell]);
        }
    }

    @Says("A height below -999 gets no less (no STROKE, no DRAW, no IRON for it).")
    static void promise13RoundSlipBringsTheNextBelowLowest() {
        // cell 0 is too low behind deep, so that its slip takes from cell 1 alone, which then has no stroke of its own
        ThreePlates x = worn(ZEROS);
        int w = x.about(5);
        due("strokes", x.round(0), 8);
        dueHeights(x, -1008, -1000, -1008, -1008, -1008, -1008, -1008, -1008, -1008);
        due("iron: eight times 9, and 1", x.about(4), 8991 + 73);
        for (int i = 0; i < 8; i++) {
            w = drawn(w);
        }
        due("eight draws", x.about(5), w);
    }

    @Says("A height below -999 gets no less (no STROKE, no DRAW, no IRON for it).")
    static void promise13RoundSlipOntoOneBelowLowest() {
        ThreePlates x = worn(" 0 -1 0 0 0 0 0 0 0;");
        due("too low already", x.height(0, 1), -1000);
        due("strokes", x.round(0), 8);
        dueHeights(x, -1008, -1000, -1008, -1008, -1008, -1008, -1008, -1008, -1008);
        due("iron: eight times 9", x.about(4), 8991 + 72);
    }

    @Says("A height below -999 gets no less (no STROKE, no DRAW, no IRON for it).")
    static void promise13RoundSlipAtLowest() {
        // deep brings cell 0 to -999, which is not below it: its slip takes 1 more
        ThreePlates x = worn(all(9, 9));
        due("strokes", x.round(0), 9);
        dueHeights(x, -1000, -1000, -999, -999, -999, -999, -999, -999, -999);
        due("iron: nine times 9, and 2", x.about(4), 8991 + 83);
    }

    @Says("NONE, doing nothing, for another number, or without ROUNDS.")
    static void promise14RunRefused() {
        ThreePlates x = make("slip 8;" + TWO, LAY);
        due("round", x.round(0), 9);
        int w = x.about(5);
        int iron = x.about(4);
        for (int n : new int[] {-1, 301, Integer.MIN_VALUE, Integer.MAX_VALUE}) {
            due("run " + n, x.run(n), -1);
        }
        dueAbout("behind what was refused", x, 2, 3, 1, 9, iron, w);
        ThreePlates none = make(TWO, "");
        due("no rounds, 0", none.run(0), -1);
        due("no rounds, 1", none.run(1), -1);
        due("no rounds, 301", none.run(301), -1);
    }

    @Says("So many ROUNDS (0 .. 300) of the ORDER, one behind the other from the first on, again and again")
    static void promise14RunFromNoneTo300() {
        ThreePlates x = make(TWO, LAY);
        due("run 0", x.run(0), 0);
        due("height", x.height(0, 0), 0);
        due("run 300", x.run(300), 2700);
        due("height", x.height(0, 0), -300);
        due("run 0", x.run(0), 2700);
    }

    @Says("one behind the other from the first on, again and again")
    static void promise14RunAgainFromTheFirst() {
        ThreePlates x = make(TWO + "plate c" + ZEROS,
            "lay b on a turn 0 scrape a deep 1;lay c on b turn 0 scrape b deep 2;lay a on c turn 0 scrape c deep 3;");
        due("run 1", x.run(1), 9);
        due("run 1 again begins with the first", x.run(1), 18);
        due("a", x.height(0, 0), -2);
        due("b", x.height(1, 0), 0);
        due("run 4", x.run(4), 54);
        due("a", x.height(0, 0), -4);
        due("b", x.height(1, 0), -2);
        due("c", x.height(2, 0), -3);
        due("run 299", x.run(299), 54 + 2691);
        // 100 of the first, 100 of the second, 99 of the third
        due("a", x.height(0, 0), -104);
        due("b", x.height(1, 0), -202);
        due("c", x.height(2, 0), -300);
    }

    @Says("the STROKES since the SHOP was read")
    static void promise14RunTellsStrokesSinceTheShop() {
        ThreePlates x = make(TWO, LAY);
        due("round", x.round(0), 9);
        due("run", x.run(2), 27);
        due("another order", orderOf(x, LAY + LAY), 2);
        due("they stay", x.run(0), 27);
        due("another shop", shopOf(x, TWO), 2);
        due("order", orderOf(x, LAY), 1);
        due("none", x.run(0), 0);
        due("run", x.run(1), 9);
    }

    @Says("A height below -999 gets no less (no STROKE, no DRAW, no IRON for it).")
    static void promise14RunBelowLowest() {
        ThreePlates x = make("red 20;slip 8;plate a" + ZEROS + "plate b" + all(99, 9), "lay a on b turn 0 scrape b deep 9;");
        due("run 110", x.run(110), 933);
        due("-991 less 9, and none by its slip", x.height(1, 0), -1000);
        due("strokes", x.about(3), 933);
    }
}
