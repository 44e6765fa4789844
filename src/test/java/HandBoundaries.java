/** The boundaries of squares and of hands: promises 26 to 30. */
final class HandBoundaries extends Checks {
    private HandBoundaries() {
    }

    @Says("-100000 if one can't be.")
    static void promise26SquareRefused() {
        ThreePlates x = new ThreePlates();
        for (int odd : new int[] {10000, -10000, Integer.MIN_VALUE, Integer.MAX_VALUE}) {
            for (int which = 0; which < 3; which++) {
                due("ab " + odd, x.square(odd, 0, 0, which, 0), -100000);
                due("bc " + odd, x.square(0, odd, 0, which, 0), -100000);
                due("ca " + odd, x.square(0, 0, odd, which, 1), -100000);
            }
        }
        for (int odd : new int[] {-1, 3, Integer.MIN_VALUE, Integer.MAX_VALUE}) {
            due("which " + odd, x.square(0, 0, 0, odd, 0), -100000);
        }
        for (int odd : new int[] {-1, 2, Integer.MIN_VALUE, Integer.MAX_VALUE}) {
            due("part " + odd, x.square(0, 0, 0, 0, odd), -100000);
        }
    }

    @Says("SQUARES: three, of which two by two show what they are off together (ab, bc, ca; -9999 .. 9999)")
    static void promise26SquareAtTheMostAndLeast() {
        ThreePlates x = new ThreePlates();
        due("a, most", x.square(9999, -9999, 9999, 0, 0), 29997);
        due("a, most, lower part", x.square(9999, -9999, 9999, 0, 1), 2);
        due("a, least", x.square(-9999, 9999, -9999, 0, 0), -29997);
        due("a, least, lower part", x.square(-9999, 9999, -9999, 0, 1), 2);
        due("b, most", x.square(9999, 9999, -9999, 1, 0), 29997);
        due("b, least", x.square(-9999, -9999, 9999, 1, 0), -29997);
        due("c, most", x.square(-9999, 9999, 9999, 2, 0), 29997);
        due("c, least", x.square(9999, -9999, -9999, 2, 0), -29997);
        due("all at 9998", x.square(9998, 9998, 9998, 0, 0), 4999);
        due("all at 9998, lower part", x.square(9998, 9998, 9998, 0, 1), 1);
    }

    @Says({"OFF of each, a fraction: half of what its own two show less the third.",
        "OFF of square (0 a, 1 b, 2 c): upper part (0; it may be below 0), lower part (1)"})
    static void promise26SquareBelowZeroAndNone() {
        ThreePlates x = new ThreePlates();
        for (int which = 0; which < 3; which++) {
            due("none", x.square(0, 0, 0, which, 0), 0);
            due("none, lower part", x.square(0, 0, 0, which, 1), 1);
        }
        due("a", x.square(0, 1, 0, 0, 0), -1);
        due("a, lower part", x.square(0, 1, 0, 0, 1), 2);
        due("b", x.square(0, 1, 0, 1, 0), 1);
        due("b, lower part", x.square(0, 1, 0, 1, 1), 2);
        due("c", x.square(0, 1, 0, 2, 0), 1);
        due("c, lower part", x.square(0, 1, 0, 2, 1), 2);
        due("a", x.square(0, 2, 0, 0, 0), -1);
        due("a, lower part", x.square(0, 2, 0, 0, 1), 1);
        due("own two that make up none", x.square(5, 0, -5, 0, 0), 0);
        due("own two that make up none, lower part", x.square(5, 0, -5, 0, 1), 1);
    }

    @Says({"deep that was meant (1 .. 9), what was taken (0 .. 99)", "NONE, doing nothing, if one can't be, or there are 40."})
    static void promise27CutRefused() {
        ThreePlates x = new ThreePlates();
        due("least of both", x.cut(1, 0), 1);
        for (int deep : new int[] {0, 10, -1, Integer.MIN_VALUE, Integer.MAX_VALUE}) {
            due("deep " + deep, x.cut(deep, 5), -1);
        }
        for (int taken : new int[] {-1, 100, Integer.MIN_VALUE, Integer.MAX_VALUE}) {
            due("taken " + taken, x.cut(5, taken), -1);
        }
        due("nothing told", x.about(7), 1);
        due("most of both", x.cut(9, 99), 2);
    }

    @Says("HAND: TOLD cuts, 40 at most")
    static void promise27CutsOfForty() {
        ThreePlates x = new ThreePlates();
        for (int i = 1; i <= 40; i++) {
            due("cut", x.cut(5, 5), i);
        }
        int fits = x.fits();
        due("a 41st", x.cut(1, 99), -1);
        due("forty", x.about(7), 40);
        due("nothing told", x.fits(), fits);
        due("another shop", shopOf(x, TWO), 2);
        due("a 41st", x.cut(5, 5), -1);
        due("clear", x.clear(), 40);
        due("again", x.cut(5, 5), 1);
    }

    @Says("Cuts are none: how many there were.")
    static void promise28ClearOfNone() {
        ThreePlates x = new ThreePlates();
        due("none", x.clear(), 0);
        x.cut(9, 99);
        due("one", x.clear(), 1);
        due("none", x.clear(), 0);
        due("cuts", x.about(7), 0);
        due("all fit", x.fits(), 180);
    }

    @Says("FACTOR in tenths f (1 .. 30) and SLIP s (0 .. 5)")
    static void promise29FitsOfAllAndOfNone() {
        ThreePlates x = new ThreePlates();
        due("30 by 6", x.fits(), 180);
        x.cut(1, 8);
        due("f 30 and s 5 alone", x.fits(), 1);
        x.cut(1, 9);
        due("f 30 has 3 to 8", x.fits(), 0);
        x.clear();
        x.cut(9, 32);
        due("9 * 30 / 10, and 5", x.fits(), 1);
        x.cut(9, 33);
        due("none", x.fits(), 0);
        x.clear();
        x.cut(9, 0);
        due("9 * 1 / 10 is none, f 2 takes 1", x.fits(), 6);
    }

    @Says("taken from deep * f / 10 (cut) to that and s.")
    static void promise29FitsByTheCut() {
        ThreePlates x = new ThreePlates();
        x.cut(1, 0);
        due("f 1 to 9, any s", x.fits(), 54);
        x.clear();
        x.cut(1, 1);
        // f 10 to 19 take 1, any s; f 1 to 9 take none, s 1 to 5
        due("1 of 1", x.fits(), 60 + 45);
        x.clear();
        x.cut(1, 3);
        // f 30: 3; f 20 to 29: 2; f 10 to 19: 1; f 1 to 9: 0
        due("3 of 1", x.fits(), 6 + 10 * 5 + 10 * 4 + 9 * 3);
    }

    @Says("NONE if none fits, or for another what.")
    static void promise30TightRefused() {
        ThreePlates x = new ThreePlates();
        for (int what : new int[] {-1, 2, Integer.MIN_VALUE, Integer.MAX_VALUE}) {
            due("what " + what, x.tight(what), -1);
        }
        x.cut(1, 9);
        due("none fits, s", x.tight(0), -1);
        due("none fits, f", x.tight(1), -1);
        due("none fits, 2", x.tight(2), -1);
    }

    @Says("TIGHT: of those that fit the least s, then f.")
    static void promise30TightAtTheEnds() {
        ThreePlates x = new ThreePlates();
        due("all fit: s 0", x.tight(0), 0);
        due("all fit: f 1", x.tight(1), 1);
        x.cut(1, 8);
        due("s 5", x.tight(0), 5);
        due("f 30", x.tight(1), 30);
        x.clear();
        x.cut(9, 27);
        due("s 0", x.tight(0), 0);
        due("f 30", x.tight(1), 30);
        x.clear();
        // by s 0 f 20 to 29 would take 2 and f 30 takes 3: s 1 lets both, with f 20 first
        x.cut(1, 2);
        x.cut(1, 3);
        due("s 1", x.tight(0), 1);
        due("f 20", x.tight(1), 20);
    }
}
