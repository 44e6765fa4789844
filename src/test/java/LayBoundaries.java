/** The boundaries of heights and of plates that are laid on one another: promises 7 to 12. */
final class LayBoundaries extends Checks {
    private static final int[] ODD = {-1, 2, 3, 4, 5, 100, Integer.MIN_VALUE, Integer.MAX_VALUE};
    // over a row of four the plane falls from 5 to 0: gaps 0, 10/3, 5/3, 0
    private static final String SLOPE = "size 4;plate a" + " 5 0 0 0".repeat(4) + ";plate b" + all(0, 16);

    private LayBoundaries() {
    }

    /** A plate of two that there is not, both one, a turn or a shift that can't be. */
    private static int[][] wrongLays() {
        return new int[][] {{-1, 1, 0, 0, 0}, {2, 1, 0, 0, 0}, {Integer.MAX_VALUE, 1, 0, 0, 0}, {0, -1, 0, 0, 0},
            {0, 2, 0, 0, 0}, {0, Integer.MIN_VALUE, 0, 0, 0}, {0, 0, 0, 0, 0}, {1, 1, 0, 0, 0}, {2, 2, 0, 0, 0},
            {0, 1, -1, 0, 0}, {0, 1, 4, 0, 0}, {0, 1, Integer.MAX_VALUE, 0, 0}, {0, 1, 0, -2, 0}, {0, 1, 0, 2, 0},
            {0, 1, 0, 0, -2}, {0, 1, 0, 0, 2}, {0, 1, 0, Integer.MIN_VALUE, 0}, {0, 1, 0, 0, Integer.MAX_VALUE}};
    }

    @Says("The height of a CELL (its number); -100000 if there is none such.")
    static void promise07HeightOfNoSuchCell() {
        for (int size = 3; size <= 5; size++) {
            int cells = size * size;
            ThreePlates x = make("size " + size + ";plate a" + all(7, cells) + "plate b" + all(8, cells), "");
            due("first", x.height(0, 0), 7);
            due("last", x.height(1, cells - 1), 8);
            for (int cell : new int[] {-1, cells, cells + 1, 25, Integer.MIN_VALUE, Integer.MAX_VALUE}) {
                due("cell " + cell, x.height(0, cell), -100000);
            }
            for (int plate : ODD) {
                due("plate " + plate, x.height(plate, 0), -100000);
            }
        }
        due("no plates", new ThreePlates().height(0, 0), -100000);
    }

    @Says("What it SEEMS; likewise.")
    static void promise08SeemsOfNoSuchCell() {
        for (int size = 3; size <= 5; size++) {
            int cells = size * size;
            ThreePlates x = make("size " + size + ";plate a" + all(7, cells) + "plate b" + all(-8, cells), "");
            due("first", x.seems(0, 0), 7);
            due("last", x.seems(1, cells - 1), -8);
            for (int cell : new int[] {-1, cells, cells + 1, 25, Integer.MIN_VALUE, Integer.MAX_VALUE}) {
                due("cell " + cell, x.seems(0, cell), -100000);
            }
            for (int plate : ODD) {
                due("plate " + plate, x.seems(plate, 0), -100000);
            }
        }
        due("no plates", new ThreePlates().seems(0, 0), -100000);
    }

    @Says("A CELL SEEMS its height and its WARMTH, less its SAG.")
    static void promise08SeemsAtItsMostAndLeast() {
        ThreePlates x = make("size 5;plate a" + all(99, 25) + "plate b" + all(-99, 25), "");
        for (int i = 0; i < 6; i++) {
            x.warm(0, 12, 20);
        }
        due("most: 99 and 99", x.seems(0, 12), 198);
        x.stand(1, 0, 1, 5, 9);
        // the far corner from cell 1: 3 by 4, so 9 * 25 / 4
        due("least: -99 less 56", x.seems(1, 24), -155);
        x.stand(0, 0, 1, 5, 9);
        // the middle from cells 1 and 5: 1 by 2, so 9 * 5 / 4
        due("both: 198 less 11", x.seems(0, 12), 187);
        due("the height stays", x.height(0, 12), 99);
    }

    @Says("NONE if one can't be, or both are one.")
    static void promise09LayRefused() {
        ThreePlates x = make(TWO, "");
        for (int[] w : wrongLays()) {
            for (int what = 0; what < 2; what++) {
                due("lay", x.lay(w[0], w[1], w[2], w[3], w[4], what), -1);
            }
        }
        for (int what : new int[] {-1, 2, Integer.MIN_VALUE, Integer.MAX_VALUE}) {
            due("what " + what, x.lay(0, 1, 0, 0, 0, what), -1);
        }
        due("one plate alone", make("plate a" + ZEROS, "").lay(0, 1, 0, 0, 0, 1), -1);
        due("what 0", x.lay(0, 1, 3, 1, -1, 0), 4);
        due("what 1", x.lay(1, 0, 3, -1, 1, 1), 4);
    }

    @Says("CELLS of a with one of b over them LIE ON ONE ANOTHER")
    static void promise09LayOfEachShift() {
        for (int size = 3; size <= 5; size++) {
            String heights = all(0, size * size);
            ThreePlates x = make("size " + size + ";plate a" + heights + "plate b" + heights, "");
            for (int turn = 0; turn <= 3; turn++) {
                for (int u = -1; u <= 1; u++) {
                    for (int v = -1; v <= 1; v++) {
                        int cells = (size - Math.abs(u)) * (size - Math.abs(v));
                        due("cells", x.lay(0, 1, turn, u, v, 1), cells);
                        due("reds", x.lay(0, 1, turn, u, v, 0), cells);
                    }
                }
            }
        }
    }

    @Says("first its x changes to N - 1 - x, then t times x, y become N - 1 - y, x, then u and v are added")
    static void promise09LayWrapsNothingAround() {
        // only cell 1 of b is high: face down it stays where it is, turned it comes to 5, 7, 3
        ThreePlates x = make("plate a" + ZEROS + "plate b 0 50 0 0 0 0 0 0 0;red 0;", "");
        int[] high = {1, 5, 7, 3};
        int[][] beside = {{0, 2}, {2, 8}, {6, 8}, {0, 6}};
        int[][] way = {{0, -1}, {1, 0}, {0, 1}, {-1, 0}};
        for (int turn = 0; turn <= 3; turn++) {
            due("cell " + high[turn], x.gap(0, 1, turn, 0, 0, high[turn], 0), 0);
            // the plane falls from 50 at that edge to 0 at the one across
            due("one corner of that edge", x.gap(0, 1, turn, 0, 0, beside[turn][0], 0), 50);
            due("the other one", x.gap(0, 1, turn, 0, 0, beside[turn][1], 0), 50);
            int u = way[turn][0];
            int v = way[turn][1];
            due("shifted out, all is flat", x.air(0, 1, turn, u, v, 0), 0);
            due("six lie there", x.lay(0, 1, turn, u, v, 1), 6);
        }
    }

    @Says("It is RED if its GAP is no more than red.")
    static void promise09LayRedAtTheLimit() {
        // the slope with one high corner alone: gaps 0 five times, 5/3 and 10/3 four times each, 5 three times
        int[] want = {5, 5, 9, 9, 13, 16};
        for (int red = 0; red <= 5; red++) {
            ThreePlates x = make("red " + red + ";size 4;plate a 5" + " 0".repeat(15) + ";plate b" + all(0, 16), "");
            due("red " + red, x.lay(0, 1, 0, 0, 0, 0), want[red]);
        }
        ThreePlates x = make("red 20;plate a 0 0 0 0 -20 0 0 0 0;plate b" + ZEROS, "");
        due("gap 20, red 20", x.lay(0, 1, 0, 0, 0, 0), 9);
        x = make("red 20;plate a 0 0 0 0 -21 0 0 0 0;plate b" + ZEROS, "");
        due("gap 21, red 20", x.lay(0, 1, 0, 0, 0, 0), 8);
    }

    @Says("The upper plate RESTS by a plane through the SUMS of three CELLS not in one line, no SUM above it")
    static void promise10GapOverARidge() {
        // the row in the middle is high: 5 y and 10 - 5 y lie as low over the middle, cells 0, 1, 3 come first
        ThreePlates x = make("plate a 0 0 0 5 5 5 0 0 0;plate b" + ZEROS, "");
        int[] want = {0, 0, 0, 0, 0, 0, 10, 10, 10};
        for (int cell = 0; cell < 9; cell++) {
            due("cell " + cell, x.gap(0, 1, 0, 0, 0, cell, 0), want[cell]);
        }
        // a ridge from corner to corner: cells 0, 1, 4 come first: 5 + 5 (y - x) touches 0, 1, 2, 4, 5, 8
        x = make("plate a 5 0 -5 0 5 0 0 0 5;plate b" + ZEROS, "");
        int[] slant = {0, 0, 0, 10, 0, 0, 15, 10, 0};
        for (int cell = 0; cell < 9; cell++) {
            due("cell " + cell, x.gap(0, 1, 0, 0, 0, cell, 0), slant[cell]);
        }
    }

    @Says("of all such planes that which is lowest over the middle of all CELLS that lie on one another "
        + "(their x and y by mean)")
    static void promise10GapByTheMiddleOfThoseThatLie() {
        // columns 1 and 2 lie: over their middle 2 - x is lowest; over the plate's middle y would come first
        ThreePlates x = make("plate a 0 0 0 0 1 0 0 0 0;plate b" + ZEROS, "");
        int[] want = {-1, 1, 0, -1, 0, 0, -1, 1, 0};
        for (int cell = 0; cell < 9; cell++) {
            due("cell " + cell, x.gap(0, 1, 0, 1, 0, cell, 0), want[cell]);
        }
    }

    @Says("of like ones the first three CELLS (of a, by numbers, the least of them first, then the next one, then the last).")
    static void promise10GapOfLikePlanes() {
        // a top in the middle: cells 0, 1, 4 come first, so the plane is 3 y
        ThreePlates x = make("plate a 0 0 0 0 3 0 0 0 0;plate b" + ZEROS, "");
        int[] want = {0, 0, 0, 3, 0, 3, 6, 6, 6};
        for (int cell = 0; cell < 9; cell++) {
            due("a below, cell " + cell, x.gap(0, 1, 0, 0, 0, cell, 0), want[cell]);
            for (int turn = 0; turn <= 3; turn++) {
                due("a above, turned, by b's numbers, cell " + cell, x.gap(1, 0, turn, 0, 0, cell, 0), want[cell]);
            }
        }
        // by -1 -1 cells 0, 1, 3, 4 lie: through 0, 1, 3 and through 1, 3, 4 it is as low
        x = make("plate a 0 0 0 0 -5 0 0 0 0;plate b" + ZEROS, "");
        due("the last one low, cell 0", x.gap(0, 1, 0, -1, -1, 0, 0), 0);
        due("the last one low, cell 4", x.gap(0, 1, 0, -1, -1, 4, 0), 5);
        x = make("plate a -5 0 0 0 0 0 0 0 0;plate b" + ZEROS, "");
        due("the first one low, cell 0", x.gap(0, 1, 0, -1, -1, 0, 0), 0);
        due("the first one low, cell 4", x.gap(0, 1, 0, -1, -1, 4, 0), 5);
    }

    @Says("upper part (0), lower part (1), in lowest terms; NONE likewise, or if nothing lies over it.")
    static void promise10GapInLowestTerms() {
        ThreePlates x = make(SLOPE, "");
        int[][] want = {{0, 1}, {10, 3}, {5, 3}, {0, 1}};
        for (int cell = 0; cell < 16; cell++) {
            due("upper part", x.gap(0, 1, 0, 0, 0, cell, 0), want[cell % 4][0]);
            due("lower part", x.gap(0, 1, 0, 0, 0, cell, 1), want[cell % 4][1]);
        }
    }

    @Says("NONE likewise, or if nothing lies over it.")
    static void promise10GapRefused() {
        ThreePlates x = make(TWO, "");
        for (int[] w : wrongLays()) {
            due("gap", x.gap(w[0], w[1], w[2], w[3], w[4], 4, 0), -1);
            due("gap", x.gap(w[0], w[1], w[2], w[3], w[4], 4, 1), -1);
        }
        for (int odd : new int[] {-1, 9, 25, Integer.MIN_VALUE, Integer.MAX_VALUE}) {
            due("cell " + odd, x.gap(0, 1, 0, 0, 0, odd, 0), -1);
        }
        for (int odd : new int[] {-1, 2, Integer.MIN_VALUE, Integer.MAX_VALUE}) {
            due("part " + odd, x.gap(0, 1, 0, 0, 0, 4, odd), -1);
        }
    }

    @Says("NONE likewise, or if nothing lies over it.")
    static void promise10GapWhereNothingLies() {
        ThreePlates x = make(TWO, "");
        for (int u = -1; u <= 1; u++) {
            for (int v = -1; v <= 1; v++) {
                for (int cell = 0; cell < 9; cell++) {
                    int px = cell % 3 - u;
                    int py = cell / 3 - v;
                    boolean over = px >= 0 && px < 3 && py >= 0 && py < 3;
                    due("upper part", x.gap(0, 1, 1, u, v, cell, 0), over ? 0 : -1);
                    due("lower part", x.gap(0, 1, 1, u, v, cell, 1), over ? 1 : -1);
                }
            }
        }
    }

    @Says("AIR: likewise.")
    static void promise11AirRefused() {
        ThreePlates x = make(TWO, "");
        for (int[] w : wrongLays()) {
            due("air", x.air(w[0], w[1], w[2], w[3], w[4], 0), -1);
            due("air", x.air(w[0], w[1], w[2], w[3], w[4], 1), -1);
        }
        for (int odd : new int[] {-1, 2, Integer.MIN_VALUE, Integer.MAX_VALUE}) {
            due("part " + odd, x.air(0, 1, 0, 0, 0, odd), -1);
        }
    }

    @Says("AIR: all their GAPS together.")
    static void promise11AirOverEachCell() {
        for (int dip = 0; dip < 9; dip++) {
            StringBuilder heights = new StringBuilder();
            for (int cell = 0; cell < 9; cell++) {
                heights.append(cell == dip ? " -99" : " 0");
            }
            ThreePlates x = make("plate a" + heights + ";plate b" + ZEROS, "");
            due("air", x.air(0, 1, 0, 0, 0, 0), 99);
            due("reds", x.lay(0, 1, 0, 0, 0, 0), 8);
            for (int cell = 0; cell < 9; cell++) {
                due("gap", x.gap(0, 1, 0, 0, 0, cell, 0), cell == dip ? 99 : 0);
            }
        }
    }

    @Says("AIR: all their GAPS together.")
    static void promise11AirOfNothingAndOfFractions() {
        ThreePlates x = make(TWO, "");
        due("none", x.air(0, 1, 0, 0, 0, 0), 0);
        due("none, lower part", x.air(0, 1, 0, 0, 0, 1), 1);
        x = make(SLOPE, "");
        due("four times 5", x.air(0, 1, 0, 0, 0, 0), 20);
        due("lower part", x.air(0, 1, 0, 0, 0, 1), 1);
        due("three rows lie", x.air(0, 1, 0, 0, 1, 0), 15);
        due("three columns lie, without the high one", x.air(0, 1, 0, 1, 0, 0), 0);
        // 1 - x / 2 over three by three
        x = make("plate a 1 0 0 1 0 0 1 0 0;plate b" + ZEROS, "");
        due("three times 1/2, upper part", x.air(0, 1, 0, 0, 0, 0), 3);
        due("three times 1/2, lower part", x.air(0, 1, 0, 0, 0, 1), 2);
        due("twice 1/2, upper part", x.air(0, 1, 0, 0, -1, 0), 1);
        due("twice 1/2, lower part", x.air(0, 1, 0, 0, -1, 1), 1);
    }

    @Says("1 if they LIFT by n (0 .. 999), else 0; NONE likewise.")
    static void promise12LiftRefused() {
        ThreePlates x = make(TWO, "");
        for (int[] w : wrongLays()) {
            due("lift", x.lift(w[0], w[1], w[2], w[3], w[4], 0), -1);
        }
        for (int n : new int[] {-1, 1000, Integer.MIN_VALUE, Integer.MAX_VALUE}) {
            due("lift by " + n, x.lift(0, 1, 0, 0, 0, n), -1);
        }
        due("lift by 0", x.lift(0, 1, 0, 0, 0, 0), 1);
        due("lift by 999", x.lift(0, 1, 0, 0, 0, 999), 1);
    }

    @Says("TWINS: two plates laid LIFT, if no GAP is more than n.")
    static void promise12LiftAtTheLimit() {
        ThreePlates x = make(SLOPE, "");
        due("10/3 by 3", x.lift(0, 1, 0, 0, 0, 3), 0);
        due("10/3 by 4", x.lift(0, 1, 0, 0, 0, 4), 1);
        x = make("plate a 0 0 0 0 -7 0 0 0 0;plate b" + ZEROS, "");
        due("7 by 6", x.lift(0, 1, 0, 0, 0, 6), 0);
        due("7 by 7", x.lift(0, 1, 0, 0, 0, 7), 1);
        due("red does not matter", x.lift(0, 1, 0, 0, 0, 0), 0);
    }

    @Says("1 if they LIFT by n (0 .. 999), else 0")
    static void promise12LiftOfMoreThan999() {
        // cells 4, 5, 7, 8 of a go down to -1008, the first ones of the plate stay at 0
        ThreePlates x = make(TWO, "lay b on a turn 0 by 1 1 scrape a deep 9;");
        due("run", x.run(111), 444);
        due("gap", x.gap(0, 1, 0, 0, 0, 8, 0), 999);
        due("999 by 998", x.lift(0, 1, 0, 0, 0, 998), 0);
        due("999 by 999", x.lift(0, 1, 0, 0, 0, 999), 1);
        due("run", x.run(1), 448);
        due("gap", x.gap(0, 1, 0, 0, 0, 8, 0), 1008);
        due("1008 by 999", x.lift(0, 1, 0, 0, 0, 999), 0);
    }
}
