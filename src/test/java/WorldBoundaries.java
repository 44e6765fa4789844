/** The boundaries of sights and worlds: promises 33 to 37. */
final class WorldBoundaries extends Checks {
    private static final int ALL_RED = 511;
    // the columns at both ends: p X X alone, p above 0
    private static final int ENDS = 0b101101101;

    private WorldBoundaries() {
    }

    private static ThreePlates ofSize(int size, int count) {
        return make(plates(size, count), "");
    }

    @Says("A SIGHT: its number; NONE, doing nothing, if one can't be (reds is not 0 .. all CELLS), or there are 20.")
    static void promise33SightRefused() {
        ThreePlates x = ofSize(3, 2);
        int[][] wrong = {{-1, 0, 0, 0, 1}, {2, 0, 0, 0, 1}, {Integer.MAX_VALUE, 0, 0, 0, 1}, {0, -1, 0, 0, 1},
            {0, 4, 0, 0, 1}, {0, Integer.MIN_VALUE, 0, 0, 1}, {0, 0, -2, 0, 1}, {0, 0, 2, 0, 1}, {0, 0, 0, -2, 1},
            {0, 0, 0, 2, 1}, {0, 0, 0, 0, -1}, {0, 0, 0, 0, 512}, {0, 0, 0, 0, Integer.MIN_VALUE},
            {0, 0, 0, 0, Integer.MAX_VALUE}};
        for (int[] w : wrong) {
            due("sight", x.sight(w[0], w[1], w[2], w[3], w[4]), -1);
        }
        due("none", x.about(8), 0);
        due("all worlds fit", x.worlds(), 343);
        due("the first", x.sight(1, 3, -1, 1, 0), 0);
        due("without plates", new ThreePlates().sight(0, 0, 0, 0, 0), -1);
    }

    @Says("(reds is not 0 .. all CELLS)")
    static void promise33SightOfNoneAndOfAllCells() {
        for (int size = 3; size <= 5; size++) {
            int all = (1 << size * size) - 1;
            ThreePlates x = ofSize(size, 1);
            due("none", x.sight(0, 0, 0, 0, 0), 0);
            due("all", x.sight(0, 0, 0, 0, all), 1);
            due("one too many", x.sight(0, 0, 0, 0, all + 1), -1);
            due("below none", x.sight(0, 0, 0, 0, -1), -1);
            due("sights", x.about(8), 2);
        }
    }

    @Says("SIGHTS, 20 at most (none behind another SHOP)")
    static void promise33SightsOfTwenty() {
        ThreePlates x = ofSize(3, 1);
        for (int i = 0; i < 20; i++) {
            due("its number", x.sight(0, 0, 0, 0, ALL_RED), i);
        }
        due("a 21st", x.sight(0, 0, 0, 0, 0), -1);
        due("twenty", x.about(8), 20);
        due("nothing told", x.worlds(), 1);
        due("a shop with a fault", shopOf(x, "!"), -1);
        due("stay", x.about(8), 20);
        due("another shop", shopOf(x, TWO), 2);
        due("none", x.about(8), 0);
        due("all fit", x.worlds(), 343);
        due("again from the first", x.sight(1, 0, 0, 0, ALL_RED), 0);
    }

    @Says("How many WORLDS FIT; -2 if SPENT.")
    static void promise34WorldsOfAllOneAndNone() {
        due("without plates", new ThreePlates().worlds(), 343);
        ThreePlates x = ofSize(3, 1);
        due("no sights", x.worlds(), 343);
        x.sight(0, 0, 0, 0, ALL_RED);
        due("the flat one", x.worlds(), 1);
        x.sight(0, 0, 0, 0, 0);
        due("none: some cells are always red", x.worlds(), 0);
    }

    @Says("SPENT: if N is 5.")
    static void promise34WorldsSpent() {
        for (int size = 3; size <= 5; size++) {
            due("size " + size, ofSize(size, 0).worlds(), size == 5 ? -2 : 343);
        }
        ThreePlates x = ofSize(5, 1);
        due("a sight can be told", x.sight(0, 0, 0, 0, 0), 0);
        due("spent", x.worlds(), -2);
        due("another shop", shopOf(x, ""), 0);
        due("not spent", x.worlds(), 343);
    }

    @Says("SIGHTS, 20 at most (none behind another SHOP): it was laid on a PLATE (as that SEEMS when it is asked)")
    static void promise34WorldsAsItSeemsWhenAsked() {
        ThreePlates x = ofSize(3, 1);
        x.sight(0, 0, 0, 0, ALL_RED);
        due("the flat one", x.world(0), 171);
        x.warm(0, 4, 1);
        due("a top of 1 lies flat with none", x.worlds(), 0);
        x.rest(1);
        due("cold", x.worlds(), 1);
        x.image(0);
        x.warm(0, 4, 1);
        due("warm", x.worlds(), 0);
        x.back(0);
        due("back", x.worlds(), 1);
        x.stand(0, 0, 1, 2, 9);
        due("sags", x.worlds(), 0);
        x.stand(0, 0, 1, 2, 0);
        due("without", x.worlds(), 1);
    }

    @Says("A WORLD FITS, if all SIGHTS would be so.")
    static void promise34WorldsByTheFirstAndTheLastSight() {
        for (int odd = 0; odd < 20; odd++) {
            ThreePlates x = ofSize(3, 1);
            for (int i = 0; i < 20; i++) {
                x.sight(0, 0, 0, 0, i == odd ? ENDS : ALL_RED);
            }
            due("sight " + odd + " is not like the others", x.worlds(), 0);
        }
    }

    @Says("it was laid on a PLATE (as that SEEMS when it is asked), turned and shifted")
    static void promise34WorldsByPlateTurnAndShift() {
        // d's middle row is 4 low: a world with r -1 makes it flat, or p -1 a quarter turned
        String plates = "plate a" + ZEROS + "plate b" + ZEROS + "plate c" + ZEROS + "plate d 0 0 0 -4 -4 -4 0 0 0;";
        ThreePlates x = make(plates, "");
        x.sight(3, 0, 0, 0, ALL_RED);
        dueWorlds("r -1", x, 147 + 21 + 2);
        ThreePlates turned = make(plates, "");
        turned.sight(3, 1, 0, 0, ALL_RED);
        dueWorlds("p -1", turned, 98 + 21 + 3);
        // by 0 -1 rows 1 and 2 of the world lie over 0 and 1 of a: a plane if p and q are none, whatever r is
        ThreePlates shifted = make(plates, "");
        shifted.sight(0, 0, 0, -1, 0b000111111);
        dueWorlds("r is free", shifted, 168, 169, 170, 171, 172, 173, 174);
    }

    @Says("and those CELLS of that one were RED (as bits, CELL c: 1 << c)")
    static void promise34WorldsOfCellsThatDoNotLie() {
        ThreePlates x = ofSize(3, 1);
        // by 1 0 cells 0, 3, 6 have nothing over them
        x.sight(0, 0, 1, 0, ALL_RED);
        due("none can show them red", x.worlds(), 0);
        ThreePlates y = ofSize(3, 1);
        y.sight(0, 0, 1, 0, ALL_RED & ~0b001001001);
        // columns 2 and 1 of the world lie over 1 and 2: with X 2 and 0 the heights 4 p + 2 q Y + r Y Y and r Y Y are a
        // plane if q and r are none, whatever p is
        due("p is free", y.worlds(), 7);
        for (int i = 0; i < 7; i++) {
            due("world " + i, y.world(i), 49 * i + 7 * 3 + 3);
        }
    }

    @Says("an UNKNOWN plate is one of 343 WORLDS p, q, r (-3 .. 3 each; their number 49 * (p + 3) + 7 * (q + 3) + r + 3)")
    static void promise35WorldNumbersAtTheEnds() {
        ThreePlates p = ofSize(3, 1);
        p.sight(0, 0, 0, 0, ENDS);
        dueWorlds("p 1, 2, 3", p, 49 * 4 + 21 + 3, 49 * 5 + 21 + 3, 49 * 6 + 21 + 3);
        ThreePlates r = ofSize(3, 1);
        // the rows at both ends
        r.sight(0, 0, 0, 0, 0b111000111);
        dueWorlds("r 1, 2, 3", r, 49 * 3 + 21 + 4, 49 * 3 + 21 + 5, 49 * 3 + 21 + 6);
    }

    @Says("the height of its CELL x, y is p * X * X + q * X * Y + r * Y * Y, X is 2 * x less N, and 1, Y likewise of y.")
    static void promise35WorldThatIsTwisted() {
        // face down q is -q: cells 2 and 6 are high, 0 and 8 low, and the plane through 0, 1, 3 comes first; a row and a
        // column that lie in it let p and r be none
        ThreePlates x = ofSize(3, 1);
        x.sight(0, 0, 0, 0, 0b001001111);
        dueWorlds("q 1, 2, 3", x, 147 + 7 * 4 + 3, 147 + 7 * 5 + 3, 147 + 7 * 6 + 3);
        ThreePlates y = ofSize(3, 1);
        y.sight(0, 0, 0, 0, 0b100100111);
        dueWorlds("q -3, -2, -1", y, 147 + 3, 147 + 7 + 3, 147 + 14 + 3);
        ThreePlates turned = ofSize(3, 1);
        turned.sight(0, 1, 0, 0, 0b001001111);
        dueWorlds("a quarter turns q about", turned, 147 + 3, 147 + 7 + 3, 147 + 14 + 3);
    }

    private static void dueWorlds(String which, ThreePlates x, int... want) {
        due(which, x.worlds(), want.length);
        for (int i = 0; i < want.length; i++) {
            due(which, x.world(i), want[i]);
        }
        due("none behind them", x.world(want.length), -1);
    }

    @Says("The i-th of them (its number); NONE if there is none such, or SPENT.")
    static void promise35WorldRefused() {
        ThreePlates x = ofSize(3, 1);
        due("the first", x.world(0), 0);
        due("the last", x.world(342), 342);
        for (int i : new int[] {-1, 343, Integer.MIN_VALUE, Integer.MAX_VALUE}) {
            due("world " + i, x.world(i), -1);
        }
        x.sight(0, 0, 0, 0, ENDS);
        due("p 1", x.world(0), 49 * 4 + 24);
        due("p 3", x.world(2), 49 * 6 + 24);
        due("no fourth", x.world(3), -1);
        due("none before", x.world(-1), -1);
        x.sight(0, 0, 0, 0, 0);
        due("none fits", x.world(0), -1);
        due("spent", ofSize(5, 1).world(0), -1);
        due("spent", ofSize(5, 0).world(-1), -1);
    }

    @Says("upper part (0), lower part (1); NONE if none FITS, or one can't be; -2 if SPENT.")
    static void promise36KnownRefused() {
        for (boolean high : new boolean[] {true, false}) {
            ThreePlates x = ofSize(3, 1);
            for (int part : new int[] {-1, 2, Integer.MIN_VALUE, Integer.MAX_VALUE}) {
                due("part " + part, x.known(high, part), -1);
                due("part " + part + ", spent", ofSize(5, 1).known(high, part), -1);
            }
            for (int part = 0; part < 2; part++) {
                due("spent", ofSize(5, 1).known(high, part), -2);
                due("spent, without plates", ofSize(5, 0).known(high, part), -2);
            }
            x.sight(0, 0, 0, 0, 0);
            due("none fits", x.known(high, 0), -1);
            due("none fits", x.known(high, 1), -1);
        }
    }

    @Says("KNOWN: the least, the most OFF of WORLDS that FIT.")
    static void promise36KnownOfOneAndOfMore() {
        ThreePlates x = ofSize(3, 1);
        due("least of all", x.known(false, 0), 0);
        due("least of all, lower part", x.known(false, 1), 1);
        due("without plates", new ThreePlates().known(false, 0), 0);
        x.sight(0, 0, 0, 0, ENDS);
        // p 1, 2, 3: the middle hangs 4 p below
        due("least", x.known(false, 0), 4);
        due("most", x.known(true, 0), 12);
        due("most, lower part", x.known(true, 1), 1);
        ThreePlates r = ofSize(3, 1);
        r.sight(0, 0, 0, 0, 0b111000111);
        due("rows, least", r.known(false, 0), 4);
        due("rows, most", r.known(true, 0), 12);
        ThreePlates q = ofSize(3, 1);
        // q 1, 2, 3: cells 0 and 8 are 4 q, 2 and 6 are -4 q; through 0, 1, 2 the plane is 8 q above 4 q over cell 6
        q.sight(0, 0, 0, 0, 0b001001111);
        due("twisted, least", q.known(false, 0), 16);
        due("twisted, most", q.known(true, 0), 48);
        // four by four: 9 p, p, p, 9 p
        ThreePlates four = ofSize(4, 1);
        four.sight(0, 0, 0, 0, 0b1001100110011001);
        due("four by four, least", four.known(false, 0), 8);
        due("four by four, most", four.known(true, 0), 24);
        ThreePlates y = ofSize(3, 1);
        y.sight(0, 0, 0, 0, ALL_RED);
        due("the flat one alone", y.known(true, 0), 0);
        due("the flat one alone, lower part", y.known(true, 1), 1);
    }

    @Says("NONE if none FITS, without PLATES, or for another what; -2 if SPENT.")
    static void promise37AskRefused() {
        ThreePlates x = ofSize(3, 1);
        for (int what : new int[] {-1, 3, Integer.MIN_VALUE, Integer.MAX_VALUE}) {
            due("ask " + what, x.ask(what), -1);
            due("ask " + what + ", spent", ofSize(5, 1).ask(what), -1);
        }
        x.sight(0, 0, 0, 0, 0);
        for (int what = 0; what <= 2; what++) {
            due("none fits", x.ask(what), -1);
            due("without plates", new ThreePlates().ask(what), -1);
            due("without plates, N 5", ofSize(5, 0).ask(what), -1);
            due("spent", ofSize(5, 1).ask(what), -2);
        }
    }

    @Says("of like ones the first PLATE, then turn.")
    static void promise37AskOfLikeOnes() {
        ThreePlates x = ofSize(3, 4);
        due("plates all alike: the first", x.ask(0), 0);
        due("turns all alike: the first", x.ask(1), 0);
        int sets = x.ask(2);
        due("more than one", sets > 1, true);
        x.sight(3, 0, 0, 0, ALL_RED);
        due("one world, any will do", x.ask(0), 0);
        due("turn 0", x.ask(1), 0);
        due("one set", x.ask(2), 1);
    }

    @Says("ASK: of all PLATES and turns (0, 0)")
    static void promise37AskOfAnotherTurn() {
        // p 1, 2, 3 fit: a quarter turned, their high rows lie beside b's high row: lower, alike, higher than that;
        // not turned, they lie across it and look alike
        ThreePlates x = make("plate a" + ZEROS + "plate b 0 0 0 8 8 8 0 0 0;", "");
        x.sight(0, 0, 0, 0, ENDS);
        due("b", x.ask(0), 1);
        due("a quarter, ahead of three", x.ask(1), 1);
        due("three sets", x.ask(2), 3);
    }

    @Says("that by which most unlike sets of RED CELLS come of those that FIT")
    static void promise37AskOfTheLastPlate() {
        // p 1, 2, 3 fit: on a top of 8 in the middle of d they look unlike, on flat ones alike
        ThreePlates x = make("plate a" + ZEROS + "plate b" + ZEROS + "plate c" + ZEROS + "plate d 0 0 0 0 8 0 0 0 0;", "");
        x.sight(0, 0, 0, 0, ENDS);
        due("three fit", x.worlds(), 3);
        due("the last plate", x.ask(0), 3);
        due("its first turn", x.ask(1), 0);
        // 4 p at the ends, 8 in the middle: p 1 has a top, p 2 lies flat where it is 8, p 3 a dip
        due("three sets", x.ask(2), 3);
        // p 2 on d is red at the ends and in the middle
        x.sight(3, 0, 0, 0, ENDS | 1 << 4);
        due("one fits", x.world(0), 49 * 5 + 24);
        due("one set", x.ask(2), 1);
        due("of like ones the first plate", x.ask(0), 0);
    }
}
