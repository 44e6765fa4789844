/** The boundaries of what is told or tried and not done: promises 19 to 23, and 32. */
final class TrialBoundaries extends Checks {
    private static final String IDLE = "lay d on c turn 0 scrape c deep 1;";
    private static final int[] ODD_LIMITS = {-1, 1000, Integer.MIN_VALUE, Integer.MAX_VALUE};

    private TrialBoundaries() {
    }

    private static String dip(int deep) {
        return "plate a 0 0 0 0 " + -deep + " 0 0 0 0;plate b" + ZEROS;
    }

    @Says("how many of these numbers are free (their number less the rank of all that must hold, "
        + "reckoned modulo 1000003), less 3 for each PLATE.")
    static void promise19HiddenWithoutRoundsOrPlates() {
        due("no plates", new ThreePlates().hidden(), 0);
        for (int size = 3; size <= 5; size++) {
            for (int count = 1; count <= 4; count++) {
                due("no rounds", make(plates(size, count), "").hidden(), count * (size * size - 3));
            }
        }
    }

    @Says("for each ROUND the heights of both at each CELL where they lie on one another make up the plane")
    static void promise19HiddenOfOneRound() {
        for (int size = 3; size <= 5; size++) {
            ThreePlates x = make(plates(size, 2), "");
            for (int u = -1; u <= 1; u++) {
                for (int v = -1; v <= 1; v++) {
                    orderOf(x, "lay b on a turn 3 by " + u + " " + v + " scrape a deep 1;");
                    int cells = (size - Math.abs(u)) * (size - Math.abs(v));
                    due("by " + u + " " + v, x.hidden(), 2 * size * size + 3 - cells - 6);
                }
            }
        }
    }

    @Says("how many of these numbers are free")
    static void promise19HiddenOfThreeAndOfTenRounds() {
        String three = LAY + "lay c on b turn 0 scrape b deep 1;lay a on c turn 0 scrape c deep 1;";
        // all three are alike and turn about as they are mirrored: half the columns, less the plane that does, too
        for (int size = 3; size <= 5; size++) {
            due("three", make(plates(size, 3), three).hidden(), size * (size / 2) - 1);
        }
        // the same again and again: a, c, d and one plane are free
        due("ten times the same", make(plates(5, 4), LAY.repeat(10)).hidden(), 25 + 25 + 25 + 3 - 12);
    }

    @Says("1 if HIDES, else 0; NONE without ROUNDS.")
    static void promise20HidesWithoutRounds() {
        due("a new object", new ThreePlates().hides(), -1);
        ThreePlates x = make(TWO, "");
        due("no order", x.hides(), -1);
        due("order", orderOf(x, LAY), 1);
        due("they hide", x.hides(), 1);
        due("an empty order", orderOf(x, ""), 0);
        due("no rounds", x.hides(), -1);
    }

    @Says("HIDES: whether (by what they SEEM now) for each ROUND all that lie on one another are RED.")
    static void promise20HidesAtTheLimit() {
        due("gap 20, red 20", make("red 20;" + dip(20), LAY).hides(), 1);
        due("gap 20, red 19", make("red 19;" + dip(20), LAY).hides(), 0);
        String slope = "size 4;plate a" + " 5 0 0 0".repeat(4) + ";plate b" + all(0, 16);
        due("gap 10/3, red 3", make("red 3;" + slope, LAY).hides(), 0);
        due("gap 10/3, red 4", make("red 4;" + slope, LAY).hides(), 1);
        // the high column does not lie there
        due("by 1 0", make(slope, "lay b on a turn 0 by 1 0 scrape a deep 1;").hides(), 1);
    }

    @Says("HIDES: whether (by what they SEEM now) for each ROUND all that lie on one another are RED.")
    static void promise20HidesForEachRound() {
        String shop = "plate a 0 0 0 0 -5 0 0 0 0;plate b 0 0 0 0 5 0 0 0 0;plate c" + ZEROS;
        String other = "lay c on a turn 0 scrape a deep 1;";
        due("the last one shows it", make(shop, LAY.repeat(9) + other).hides(), 0);
        due("the first one shows it", make(shop, other + LAY.repeat(9)).hides(), 0);
        ThreePlates x = make(shop, LAY.repeat(10));
        due("none shows it", x.hides(), 1);
        x.stand(1, 0, 1, 3, 1);
        // the far corner alone sags: 5 / 4, cut
        due("by what they seem", x.hides(), 0);
    }

    @Says("UNTIL n; NONE if it takes more than 300, without ROUNDS, or for another n.")
    static void promise21UntilRefused() {
        ThreePlates x = make(TWO, LAY);
        for (int n : ODD_LIMITS) {
            due("until " + n, x.until(n), -1);
        }
        due("until 0", x.until(0), 0);
        due("until 999", x.until(999), 0);
        due("without rounds", make(TWO, "").until(0), -1);
        due("without plates", new ThreePlates().until(999), -1);
    }

    @Says("till all are FLAT by n, at most 300 (0: they are now)")
    static void promise21Until300And301() {
        String rest = "plate b" + ZEROS + "plate c" + ZEROS + "plate d" + ZEROS;
        // the dip of a is 1 less behind every second round
        ThreePlates x = make("plate a 99 99 99 99 -51 99 99 99 99;" + rest, IDLE + LAY);
        due("150, the last one by round 300", x.until(0), 300);
        due("by 150", x.until(150), 0);
        due("by 149", x.until(149), 2);
        x = make("plate a 99 99 99 99 -52 99 99 99 99;" + rest, LAY + IDLE);
        due("151, the last one would be round 301", x.until(0), -1);
        due("by 1", x.until(1), 299);
        x = make("plate a 99 99 99 99 -52 99 99 99 99;" + rest, IDLE + LAY);
        due("round 302", x.until(0), -1);
    }

    @Says({"gone through again and again", "SPENT by none."})
    static void promise21UntilOfFiveByFive() {
        ThreePlates x = make("size 5;plate a" + " 0".repeat(12) + " -3" + " 0".repeat(12) + ";plate b" + all(0, 25), LAY);
        due("until 0", x.until(0), 3);
        due("until 2", x.until(2), 1);
        due("best", x.best(3, 0), 72);
    }

    @Says("(What is tried so stays as it was, w too.)")
    static void promise21UntilLeavesAll() {
        ThreePlates x = make("slip 4;" + dip(9), LAY);
        x.warm(0, 0, 3);
        x.round(0);
        int[] was = new int[9];
        int[] heights = new int[9];
        for (int i = 0; i < 9; i++) {
            was[i] = x.about(i);
            heights[i] = x.height(0, i);
        }
        int first = x.until(0);
        x.best(3, 2);
        x.deepest(0, 0);
        due("the same answer", x.until(0), first);
        dueAbout("behind what was tried", x, was);
        for (int i = 0; i < 9; i++) {
            due("height", x.height(0, i), heights[i]);
        }
    }

    @Says({"BEST of m ROUNDS (1 .. 3) for n",
        "BEST of m ROUNDS for n: the IRON; NONE if none is, without ROUNDS, or one can't be."})
    static void promise22BestRefused() {
        ThreePlates x = make(TWO, LAY);
        for (int m : new int[] {0, 4, -1, Integer.MIN_VALUE, Integer.MAX_VALUE}) {
            due("best of " + m, x.best(m, 0), -1);
        }
        for (int n : ODD_LIMITS) {
            due("for " + n, x.best(1, n), -1);
        }
        due("of 1 for 0", x.best(1, 0), 9);
        due("of 3 for 999", x.best(3, 999), 27);
        due("without rounds", make(TWO, "").best(1, 0), -1);
        due("without plates", new ThreePlates().best(1, 999), -1);
    }

    @Says("of all rows of m ROUNDS of the ORDER (any, again, too) after which all are FLAT by n that with the least IRON")
    static void promise22BestIfNoneIs() {
        ThreePlates x = make(dip(2), LAY);
        due("one is not enough", x.best(1, 0), -1);
        due("the same twice", x.best(2, 0), 16);
        due("and once more than needed", x.best(3, 0), 25);
        due("one for 1", x.best(1, 1), 8);
        x = make(dip(4), LAY);
        due("three are not enough", x.best(3, 0), -1);
        due("but for 1", x.best(3, 1), 24);
    }

    @Says("of like ones the first, ROUND by ROUND.")
    static void promise22BestOfLikeRows() {
        ThreePlates x = make(TWO, LAY.repeat(10));
        due("three", x.best(3, 0), 27);
        for (int j = 0; j < 3; j++) {
            due("round " + j, x.bestRound(3, 0, j), 0);
        }
        // by deep 1 and 2, or 2 and 1: 24 each
        x = make(dip(3), "lay b on a turn 0 scrape a deep 2;" + LAY);
        due("two", x.best(2, 0), 24);
        due("the first one first", x.bestRound(2, 0, 0), 0);
        due("then the other one", x.bestRound(2, 0, 1), 1);
        x = make(dip(3), "lay b on a turn 0 scrape b deep 1;" + LAY + "lay b on a turn 0 scrape a deep 2;");
        due("two", x.best(2, 0), 24);
        due("the second one first", x.bestRound(2, 0, 0), 1);
        due("then the last one", x.bestRound(2, 0, 1), 2);
    }

    @Says("that with the least IRON")
    static void promise22BestIsNotTheLastThatWillDo() {
        ThreePlates x = make(dip(2), LAY + "lay b on a turn 0 scrape a deep 2;lay b on a turn 0 scrape a deep 3;");
        due("8, 16 or 24", x.best(1, 2), 8);
        due("the first", x.bestRound(1, 2, 0), 0);
        due("for 0", x.best(1, 0), 16);
        due("the second", x.bestRound(1, 0, 0), 1);
    }

    @Says("after which all are FLAT by n")
    static void promise22BestNeedsAllPlatesFlat() {
        // the rounds leave one of four as it is, whichever it is
        for (int plate = 0; plate < 4; plate++) {
            String name = "" + "abcd".charAt(plate);
            String others = "abcd".replace(name, "");
            String order = "lay " + others.charAt(0) + " on " + others.charAt(1) + " turn 0 scrape " + others.charAt(0)
                + " deep 1;lay " + others.charAt(1) + " on " + others.charAt(2) + " turn 0 scrape " + others.charAt(1)
                + " deep 1;";
            ThreePlates x = make(FOUR.replace("plate " + name + ZEROS, "plate " + name + " 0 0 0 0 -7 0 0 0 0;"), order);
            for (int m = 1; m <= 3; m++) {
                due("by 6", x.best(m, 6), -1);
                due("by 7", x.best(m, 7), 9 * m);
            }
            due("until 6", x.until(6), -1);
            due("until 7", x.until(7), 0);
        }
    }

    @Says("BEST of m ROUNDS for n: the IRON")
    static void promise22BestIsFoundAnew() {
        ThreePlates x = make(dip(2), LAY);
        due("eight", x.best(1, 1), 8);
        due("another order", orderOf(x, "lay b on a turn 0 scrape a deep 2;"), 1);
        due("sixteen", x.best(1, 1), 16);
        due("image", x.image(0), 2);
        due("round", x.round(0), 8);
        due("flat now: eighteen", x.best(1, 1), 18);
        due("back", x.back(0), 2);
        due("sixteen", x.best(1, 1), 16);
        due("run", x.run(1), 8);
        due("eighteen", x.best(1, 1), 18);
        due("warm", x.warm(1, 0, 1), true);
        // b's corner lies over cell 2: a plane through it touches some of a alone
        due("fewer are red", x.best(1, 999) < 18, true);
        due("rest", x.rest(1), true);
        due("eighteen", x.best(1, 999), 18);
        due("stand", x.stand(1, 1, 3, 5, 2), true);
        due("fewer are red", x.best(1, 999) < 18, true);
        due("stand", x.stand(1, 1, 3, 5, 0), true);
        due("eighteen", x.best(1, 999), 18);
        due("another shop", shopOf(x, TWO), 2);
        due("no rounds", x.best(1, 999), -1);
        due("order", orderOf(x, LAY), 1);
        due("nine", x.best(1, 999), 9);
    }

    @Says("BEST of m ROUNDS for n: the IRON")
    static void promise22BestIsFoundAnewFromAnotherW() {
        ThreePlates x = make("slip 1;" + TWO, LAY);
        for (int seed = 0; seed < 40; seed++) {
            ThreePlates y = make("slip 1;" + TWO, LAY);
            y.seed(seed);
            due("round", y.round(0), 9);
            x.seed(seed);
            due("what the round takes", x.best(1, 999), y.about(4));
        }
    }

    @Says("that with the least IRON")
    static void promise22BestByIronOfTheRowAlone() {
        ThreePlates x = make(TWO, "lay b on a turn 0 scrape a deep 9;");
        due("run", x.run(112), 1008);
        due("nothing to take", x.best(1, 0), 0);
        due("its round", x.bestRound(1, 0, 0), 0);
        due("nothing three times", x.best(3, 0), 0);
        due("iron", x.about(4), 9072);
    }

    @Says("(What is tried so stays as it was, w too.)")
    static void promise22BestOfEachRowFromTheSameW() {
        // slips change what a round takes: the row of one round is just what the round then does
        ThreePlates x = make("slip 4;" + TWO, LAY + LAY + LAY);
        x.seed(12345);
        int iron = x.best(1, 999);
        due("the first of three alike", x.bestRound(1, 999, 0), 0);
        due("w stays", x.about(5), 12345);
        due("round", x.round(0), 9);
        due("what was told", x.about(4), iron);
    }

    @Says("Its j-th ROUND (from 0); NONE likewise.")
    static void promise23BestRoundRefused() {
        ThreePlates x = make(dip(2), LAY);
        for (int m = 1; m <= 3; m++) {
            for (int j = -1; j <= 4; j++) {
                due("row of " + m + ", round " + j, x.bestRound(m, 2, j), j >= 0 && j < m ? 0 : -1);
            }
            due("far out", x.bestRound(m, 2, Integer.MAX_VALUE), -1);
            due("far out", x.bestRound(m, 2, Integer.MIN_VALUE), -1);
        }
        for (int m : new int[] {0, 4, -1, Integer.MIN_VALUE, Integer.MAX_VALUE}) {
            due("row of " + m, x.bestRound(m, 2, 0), -1);
        }
        for (int n : ODD_LIMITS) {
            due("for " + n, x.bestRound(1, n, 0), -1);
        }
        due("none is", x.bestRound(1, 0, 0), -1);
        due("without rounds", make(TWO, "").bestRound(1, 0, 0), -1);
        due("without plates", new ThreePlates().bestRound(1, 0, 0), -1);
    }

    @Says("NONE if there is no such ROUND, or for another what.")
    static void promise32DeepestRefused() {
        ThreePlates x = make(TWO, LAY + LAY);
        for (int i : new int[] {-1, 2, 10, Integer.MIN_VALUE, Integer.MAX_VALUE}) {
            for (int what = 0; what <= 2; what++) {
                due("round " + i, x.deepest(i, what), -1);
            }
        }
        for (int what : new int[] {-1, 3, Integer.MIN_VALUE, Integer.MAX_VALUE}) {
            due("what " + what, x.deepest(0, what), -1);
        }
        due("the last round", x.deepest(1, 0), 1);
        due("without rounds", make(TWO, "").deepest(0, 0), -1);
        due("without plates", new ThreePlates().deepest(0, 0), -1);
    }

    @Says("of deep 1 .. 9 in place of its own, without slips, that by which the scraped plate's OFF is least behind it")
    static void promise32DeepestFrom1To9() {
        for (int deep = 1; deep <= 9; deep++) {
            ThreePlates x = make("slip 8;" + dip(deep), LAY);
            due("a dip of " + deep, x.deepest(0, 0), deep);
            due("flat then", x.deepest(0, 1), 0);
            due("flat then, lower part", x.deepest(0, 2), 1);
            due("nothing drawn", x.about(5), 1);
        }
        for (int seed = 0; seed < 40; seed++) {
            ThreePlates y = make("slip 1;" + dip(3), LAY);
            y.seed(seed);
            due("without slips, whatever w is", y.deepest(0, 0), 3);
            due("flat then", y.deepest(0, 1), 0);
        }
        ThreePlates x = make(dip(20), LAY);
        due("9 is the most", x.deepest(0, 0), 9);
        due("11 are left", x.deepest(0, 1), 11);
        due("nothing is done", x.height(0, 0), 0);
    }

    @Says("of like ones the least. (Nothing is done.)")
    static void promise32DeepestOfLikeOnes() {
        ThreePlates x = make(TWO, "lay b on a turn 0 scrape a deep 9;");
        due("flat by any", x.deepest(0, 0), 1);
        due("off", x.deepest(0, 1), 0);
        due("run", x.run(112), 1008);
        due("too low for any", x.deepest(0, 0), 1);
        due("off", x.deepest(0, 1), 0);
        dueAbout("nothing is done", x, 2, 3, 1, 1008, 9072, 1);
    }

    @Says("DEEPEST what 0: deep, 1, 2: the OFF behind it, upper part, lower part")
    static void promise32DeepestWithAFraction() {
        // columns 0 and 3 are red: 5 - deep, 0, 0, -deep; by 1 column 1 has 7/3, by 2 it has 3/2, by 3 column 3 has 2
        ThreePlates x = make("size 4;plate a" + " 5 0 0 0".repeat(4) + ";plate b" + all(0, 16), LAY);
        due("deep", x.deepest(0, 0), 2);
        due("upper part", x.deepest(0, 1), 3);
        due("lower part", x.deepest(0, 2), 2);
    }
}
