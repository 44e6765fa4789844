/** The boundaries of what plates are by themselves: promises 15 to 18, 24, 25 and 31. */
final class PlateBoundaries extends Checks {
    private static final int[] ODD_PLATES = {-1, 2, 3, 4, Integer.MIN_VALUE, Integer.MAX_VALUE};
    private static final int[] ODD_PARTS = {-1, 2, Integer.MIN_VALUE, Integer.MAX_VALUE};
    // the plane falls from 5 to 0 over four columns: the greatest gap is 10/3
    private static final String SLOPE = "size 4;plate a" + " 5 0 0 0".repeat(4) + ";";
    private static final String[] SIZES = {"size 3;", "size 4;", "size 5;"};

    private PlateBoundaries() {
    }

    @Says("OFF of a plate: upper part (0), lower part (1); NONE if one can't be.")
    static void promise15OffRefused() {
        ThreePlates x = make(TWO, "");
        for (int part = 0; part < 2; part++) {
            for (int plate : ODD_PLATES) {
                due("plate " + plate, x.off(plate, part), -1);
            }
            due("no plates", new ThreePlates().off(0, part), -1);
        }
        for (int part : ODD_PARTS) {
            due("part " + part, x.off(0, part), -1);
        }
    }

    @Says("OFF of a plate: it alone, its heights as SUMS: the greatest GAP.")
    static void promise15OffFromNoneToTheMost() {
        ThreePlates x = make(TWO, "");
        due("flat", x.off(1, 0), 0);
        due("flat, lower part", x.off(1, 1), 1);
        x = make("plate a 99 99 99 99 -99 99 99 99 99;plate b" + all(-99, 9), "");
        due("the deepest dip", x.off(0, 0), 198);
        due("all at -99", x.off(1, 0), 0);
        x = make(SLOPE, "");
        due("upper part", x.off(0, 0), 10);
        due("lower part", x.off(0, 1), 3);
        x.warm(0, 5, 20);
        x.stand(0, 0, 1, 2, 9);
        due("by heights, upper part", x.off(0, 0), 10);
        due("by heights, lower part", x.off(0, 1), 3);
    }

    @Says("1 if all are FLAT by n (0 .. 999), else 0; NONE for another n.")
    static void promise16FlatRefused() {
        ThreePlates x = make(TWO, "");
        for (int n : new int[] {-1, 1000, Integer.MIN_VALUE, Integer.MAX_VALUE}) {
            due("flat by " + n, x.flat(n), -1);
            due("without plates", new ThreePlates().flat(n), -1);
        }
        due("flat by 0", x.flat(0), 1);
        due("flat by 999", x.flat(999), 1);
        due("without plates, by 0", new ThreePlates().flat(0), 1);
    }

    @Says("FLAT by n: no OFF of a PLATE is more than n.")
    static void promise16FlatAtTheLimit() {
        ThreePlates x = make(SLOPE, "");
        due("10/3 by 3", x.flat(3), 0);
        due("10/3 by 4", x.flat(4), 1);
        for (int plate = 0; plate < 4; plate++) {
            String dip = "plate " + "abcd".charAt(plate) + " 0 0 0 0 -7 0 0 0 0;";
            x = make(FOUR.replace("plate " + "abcd".charAt(plate) + ZEROS, dip), "");
            due("7 by 6, plate " + plate, x.flat(6), 0);
            due("7 by 7, plate " + plate, x.flat(7), 1);
        }
    }

    @Says("1 if all are FLAT by n (0 .. 999), else 0")
    static void promise16FlatByMoreThan999() {
        ThreePlates x = make(TWO, "lay b on a turn 0 by 1 1 scrape a deep 9;");
        due("run", x.run(111), 444);
        due("999 by 998", x.flat(998), 0);
        due("999 by 999", x.flat(999), 1);
        due("run", x.run(1), 448);
        due("off", x.off(0, 0), 1008);
        due("1008 by 999", x.flat(999), 0);
    }

    @Says("WARM: true; false, doing nothing, if there is no such CELL, or n is not 1 .. 20.")
    static void promise17WarmRefused() {
        ThreePlates x = make(TWO, "");
        for (int plate : ODD_PLATES) {
            due("plate " + plate, x.warm(plate, 0, 5), false);
        }
        for (int cell : new int[] {-1, 9, 25, Integer.MIN_VALUE, Integer.MAX_VALUE}) {
            due("cell " + cell, x.warm(0, cell, 5), false);
        }
        for (int n : new int[] {0, 21, -1, Integer.MIN_VALUE, Integer.MAX_VALUE}) {
            due("by " + n, x.warm(0, 4, n), false);
        }
        for (int cell = 0; cell < 9; cell++) {
            due("nothing done", x.seems(0, cell), 0);
            due("nothing done", x.seems(1, cell), 0);
        }
        due("by 1", x.warm(0, 4, 1), true);
        due("seems", x.seems(0, 4), 1);
        due("by 20", x.warm(0, 4, 20), true);
        due("seems", x.seems(0, 4), 21);
        due("no plates", new ThreePlates().warm(0, 0, 1), false);
    }

    @Says("that of those beside it (left, right, above, below) n / 2 (cut) more")
    static void promise17WarmAtEachCell() {
        for (int size = 3; size <= 5; size++) {
            for (int n : new int[] {1, 2, 3, 19, 20}) {
                for (int cell = 0; cell < size * size; cell++) {
                    warmOne(size, cell, n);
                }
            }
        }
    }

    private static void warmOne(int size, int cell, int n) {
        ThreePlates x = new ThreePlates();
        shopOf(x, SIZES[size - 3] + "plate a" + all(0, size * size) + "plate b" + all(0, size * size));
        due("warm", x.warm(0, cell, n), true);
        for (int other = 0; other < size * size; other++) {
            int far = Math.abs(other % size - cell % size) + Math.abs(other / size - cell / size);
            due("cell " + other + " from " + cell + " by " + n, x.seems(0, other), far == 0 ? n : far == 1 ? n / 2 : 0);
            due("the other plate", x.seems(1, other), 0);
        }
    }

    @Says("(WARMTH 99 at most.)")
    static void promise17WarmTo99() {
        ThreePlates x = make(TWO, "");
        int[] want = {20, 40, 60, 80, 99, 99, 99};
        for (int i = 0; i < want.length; i++) {
            due("warm", x.warm(0, 4, 20), true);
            due("the cell", x.seems(0, 4), want[i]);
            due("beside it", x.seems(0, 1), 10 * (i + 1));
        }
        for (int i = 7; i < 9; i++) {
            x.warm(0, 4, 20);
        }
        due("90", x.seems(0, 1), 90);
        x.warm(0, 4, 18);
        due("99", x.seems(0, 1), 99);
        x.warm(0, 4, 2);
        due("no more by what is beside it", x.seems(0, 1), 99);
        x.rest(1);
        due("one less", x.seems(0, 1), 98);
        due("one less", x.seems(0, 4), 98);
    }

    @Says("So many MINUTES (0 .. 1000): true; false, doing nothing, for another number.")
    static void promise18RestRefused() {
        ThreePlates x = make(TWO, "");
        x.warm(0, 4, 20);
        for (int minutes : new int[] {-1, 1001, Integer.MIN_VALUE, Integer.MAX_VALUE}) {
            due("rest " + minutes, x.rest(minutes), false);
            due("nothing done", x.seems(0, 4), 20);
        }
        due("rest 0", x.rest(0), true);
        due("nothing less", x.seems(0, 4), 20);
        due("rest 1000", x.rest(1000), true);
        due("cold", x.seems(0, 4), 0);
        due("without plates", new ThreePlates().rest(1000), true);
        due("without plates", new ThreePlates().rest(1001), false);
    }

    @Says("a MINUTE takes 1 from each that has any.")
    static void promise18RestTakesNoMoreThanThereIs() {
        ThreePlates x = make(FOUR, "");
        x.warm(0, 0, 7);
        x.warm(3, 8, 4);
        due("rest", x.rest(3), true);
        due("7 less 3", x.seems(0, 0), 4);
        due("3 less 3", x.seems(0, 1), 0);
        due("none", x.seems(0, 2), 0);
        due("4 less 3", x.seems(3, 8), 1);
        due("2, and no less than none", x.seems(3, 7), 0);
        due("rest", x.rest(1), true);
        due("3", x.seems(0, 0), 3);
        due("0", x.seems(3, 8), 0);
        x.warm(3, 7, 1);
        due("no debt was left", x.seems(3, 7), 1);
    }

    @Says("HOLE: upper part (0), lower part (1); NONE if one can't be.")
    static void promise24HoleRefused() {
        ThreePlates x = make(TWO, "");
        for (int part = 0; part < 2; part++) {
            for (int plate : ODD_PLATES) {
                due("plate " + plate, x.hole(plate, part), -1);
            }
            due("no plates", new ThreePlates().hole(0, part), -1);
        }
        for (int part : ODD_PARTS) {
            due("part " + part, x.hole(0, part), -1);
        }
        due("none", x.hole(0, 0), 0);
        due("none, lower part", x.hole(0, 1), 1);
    }

    @Says("the highest plane below all its CELLS over its middle (that plane is found as above, all heights turned about)")
    static void promise24HoleOfLikePlanes() {
        // a dip in the middle: through cells 0, 1, 4 ahead of all others: -y, so that rows 1 and 2 have 1 0 1, 2 2 2
        ThreePlates x = make("plate a 0 0 0 0 -1 0 0 0 0;plate b -1 0 0 -1 0 0 -1 0 0;", "");
        due("8", x.hole(0, 0), 8);
        due("lower part", x.hole(0, 1), 1);
        // x / 2 - 1: the column in the middle has three times 1/2
        due("3/2, upper part", x.hole(1, 0), 3);
        due("3/2, lower part", x.hole(1, 1), 2);
        x = make("plate a 99 99 99 99 -99 99 99 99 99;plate b -99 -99 -99 -99 99 -99 -99 -99 -99;", "");
        // z = 99 - 198 y: row 1 has 198 twice, row 2 has 396 three times
        due("the most", x.hole(0, 0), 1584);
        due("a top alone", x.hole(1, 0), 198);
        x.warm(0, 4, 20);
        x.stand(1, 0, 1, 2, 9);
        due("by heights", x.hole(0, 0), 1584);
        due("by heights", x.hole(1, 0), 198);
    }

    @Says("EDGE of row (or column) i: likewise.")
    static void promise25EdgeRefused() {
        for (int size = 3; size <= 5; size++) {
            ThreePlates x = make(SIZES[size - 3] + "plate a" + all(3, size * size) + "plate b" + all(3, size * size), "");
            for (boolean row : new boolean[] {true, false}) {
                for (int i : new int[] {-1, size, size + 1, Integer.MIN_VALUE, Integer.MAX_VALUE}) {
                    due("edge " + i, x.edge(0, row, i, 0), -1);
                }
                for (int plate : ODD_PLATES) {
                    due("plate " + plate, x.edge(plate, row, 0, 0), -1);
                }
                for (int part : ODD_PARTS) {
                    due("part " + part, x.edge(0, row, 0, part), -1);
                }
                due("the last one", x.edge(1, row, size - 1, 0), 0);
                due("the last one, lower part", x.edge(1, row, size - 1, 1), 1);
                due("no plates", new ThreePlates().edge(0, row, 0, 0), -1);
            }
        }
    }

    @Says("the greatest GAP of a line that rests on it as above (by two CELLS, lowest over its middle; "
        + "of like ones the first two).")
    static void promise25EdgeOfLikeLines() {
        // through cells 0, 2 and through 2, 4 both are as low over cell 2; the greatest gaps are 7 and 15/2
        ThreePlates x = make("size 5;plate a 3 0 5 0 0 0 0 5 0 3" + " 0".repeat(15) + ";", "");
        due("3 0 5 0 0: 3 + x", x.edge(0, true, 0, 0), 7);
        due("lower part", x.edge(0, true, 0, 1), 1);
        due("0 0 5 0 3: 5 x / 2", x.edge(0, true, 1, 0), 15);
        due("lower part", x.edge(0, true, 1, 1), 2);
        x = make("plate a 1 5 0 0 5 1 5 5 4;", "");
        due("1 5 0: cells 0, 1", x.edge(0, true, 0, 0), 9);
        due("0 5 1: cells 0, 1", x.edge(0, true, 1, 0), 9);
        due("5 5 4: cells 0, 1", x.edge(0, true, 2, 0), 1);
        // 1 0 5: through the ends 3 is over the middle
        due("column 0", x.edge(0, false, 0, 0), 3);
        due("column 0, lower part", x.edge(0, false, 0, 1), 1);
        due("column 1 is flat", x.edge(0, false, 1, 0), 0);
        // 0 1 4: through the ends, 2 over the middle
        due("column 2", x.edge(0, false, 2, 0), 1);
    }

    @Says("lowest over its middle")
    static void promise25EdgeByItsMiddle() {
        // 5 0 0 0: 10/3; 0 3 0 0: through 1 and 3 it is lowest over 3/2, 9/2 at the first one
        ThreePlates x = make("size 4;plate a 5 0 0 0 0 3 0 0 0 0 3 0 0 2 2 0;", "");
        due("row 0", x.edge(0, true, 0, 0), 10);
        due("row 0, lower part", x.edge(0, true, 0, 1), 3);
        due("row 1", x.edge(0, true, 1, 0), 9);
        due("row 1, lower part", x.edge(0, true, 1, 1), 2);
        due("row 2", x.edge(0, true, 2, 0), 9);
        due("row 2, lower part", x.edge(0, true, 2, 1), 2);
        due("row 3, through both tops", x.edge(0, true, 3, 0), 2);
        x.warm(0, 0, 20);
        x.stand(0, 13, 14, 15, 9);
        due("by heights", x.edge(0, true, 0, 0), 10);
    }

    @Says("A plate STANDS: true; false, doing nothing, if one can't be, or two feet are one.")
    static void promise31StandRefused() {
        ThreePlates x = make(TWO, "");
        due("stand", x.stand(0, 0, 1, 2, 4), true);
        int[][] wrong = {{-1, 0, 1, 2, 9}, {2, 0, 1, 2, 9}, {Integer.MAX_VALUE, 0, 1, 2, 9}, {0, -1, 1, 2, 9},
            {0, 9, 1, 2, 9}, {0, 0, -1, 2, 9}, {0, 0, 9, 2, 9}, {0, 0, 1, -1, 9}, {0, 0, 1, 9, 9}, {0, 3, 3, 4, 9},
            {0, 3, 4, 3, 9}, {0, 4, 3, 3, 9}, {0, 5, 5, 5, 9}, {0, 6, 7, 8, -1}, {0, 6, 7, 8, 10},
            {0, 6, 7, 8, Integer.MIN_VALUE}, {0, 6, 7, Integer.MAX_VALUE, 9}};
        for (int[] w : wrong) {
            due("stand", x.stand(w[0], w[1], w[2], w[3], w[4]), false);
        }
        due("a foot", x.seems(0, 0), 0);
        due("as it stood", x.seems(0, 8), -4);
        due("the other one", x.seems(1, 8), 0);
        due("no plates", new ThreePlates().stand(0, 0, 1, 2, 1), false);
    }

    @Says("A plate STANDS on three of its CELLS (feet; none at first), SOFT 0 .. 9")
    static void promise31StandFromSoft0To9() {
        ThreePlates x = make("size 5;plate a" + all(0, 25) + "plate b" + all(0, 25), "");
        due("none at first", x.seems(0, 24), 0);
        for (int soft = 0; soft <= 9; soft++) {
            due("soft " + soft, x.stand(0, 0, 2, 4, soft), true);
            due("4 rows", x.seems(0, 24), -4 * soft);
            due("1 beside", x.seems(0, 1), -(soft / 4));
            due("1 and 1", x.seems(0, 6), -(soft / 2));
            due("a foot", x.seems(0, 4), 0);
            due("the other one", x.seems(1, 24), 0);
        }
        due("any order", x.stand(0, 4, 0, 2, 1), true);
        due("last cells", x.stand(0, 24, 23, 22, 9), true);
        due("a foot now", x.seems(0, 24), 0);
        due("3 by 4 from 23: 9 * 25 / 4, from 22 2 by 4: 9 * 20 / 4", x.seems(0, 0), -45);
    }

    @Says("D the least of (difference of x, squared, and difference of y, squared, together) to its feet; 0 without feet.")
    static void promise31StandByTheNearestFoot() {
        int[] feet = {3, 12, 15};
        for (int first = 0; first < 3; first++) {
            ThreePlates x = make("size 4;plate a" + all(5, 16) + "plate b" + all(5, 16), "");
            x.stand(0, feet[first], feet[(first + 1) % 3], feet[(first + 2) % 3], 7);
            for (int cell = 0; cell < 16; cell++) {
                int least = 99;
                for (int foot : feet) {
                    int dx = foot % 4 - cell % 4;
                    int dy = foot / 4 - cell / 4;
                    least = Math.min(least, dx * dx + dy * dy);
                }
                due("cell " + cell, x.seems(0, cell), 5 - 7 * least / 4);
                due("without feet", x.seems(1, cell), 5);
                due("height", x.height(0, cell), 5);
            }
        }
    }
}
