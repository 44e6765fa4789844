/** The boundaries of the order's text: promise 5. */
final class OrderBoundaries extends Checks {
    private static final String TEN = LAY.repeat(10);

    private OrderBoundaries() {
    }

    /** A text with a ^ at the place of its fault; the order before it stays. */
    private static void bad(String marked, int what) {
        ThreePlates x = make(TWO + "plate c" + ZEROS, LAY + "lay c on b turn 1 scrape b deep 3;");
        due("order of " + marked, orderOf(x, marked.replace("^", "")), -1);
        due("fault of " + marked, x.fault(0), what);
        due("place of " + marked, x.fault(1), marked.indexOf('^'));
        due("rounds behind " + marked, x.about(2), 2);
        due("bytes behind " + marked, x.about(6), 0);
        due("its second round stays", x.round(1), 9);
        due("with its deep", x.height(1, 4), -3);
    }

    private static ThreePlates good(String text, int rounds) {
        ThreePlates x = make(TWO + "plate c" + ZEROS, "");
        due("order of " + text, orderOf(x, text), rounds);
        due("fault of " + text, x.fault(0), 0);
        due("place of " + text, x.fault(1), -1);
        due("rounds of " + text, x.about(2), rounds);
        due("bytes behind " + text, x.about(6), 0);
        return x;
    }

    @Says({"An ORDER is a text of at most 500 bytes", "-2, and the TAPE stays: more than 500 bytes."})
    static void promise05OrderOf500Bytes() {
        ThreePlates x = make(TWO, LAY + LAY);
        feedText(x, LAY + " ".repeat(501 - LAY.length()));
        due("501 bytes", x.order(), -2);
        due("the tape stays", x.about(6), 501);
        due("the order stays", x.about(2), 2);
        due("again", x.order(), -2);
        due("cut to 500", x.end(500), 500);
        due("500 bytes", x.order(), 1);
        due("the tape is empty", x.about(6), 0);
        feedText(x, " ".repeat(1200));
        due("1200 bytes", x.order(), -2);
        due("the tape stays", x.about(6), 1200);
        due("as a shop it will do", x.shop(), 0);
    }

    @Says("(none at first, and behind another SHOP)")
    static void promise05OrderNoneAtFirst() {
        ThreePlates x = new ThreePlates();
        due("at first", x.about(2), 0);
        due("no round", x.round(0), -1);
        due("shop", shopOf(x, TWO), 2);
        due("order", orderOf(x, LAY + LAY), 2);
        due("a shop with a fault", shopOf(x, "plate"), -1);
        due("stays", x.about(2), 2);
        due("the same shop again", shopOf(x, TWO), 2);
        due("none", x.about(2), 0);
        due("no round", x.round(0), -1);
        due("nothing is run", x.run(1), -1);
    }

    @Says("at most 10 ROUNDS")
    static void promise05OrderOfTenRounds() {
        ThreePlates x = good(TEN, 10);
        due("the last one", x.round(9), 9);
        due("none behind it", x.round(10), -1);
        good("", 0);
        good(" \n \n", 0);
    }

    @Says("an 11th ROUND: 2 at its first word")
    static void promise05OrderOfElevenRounds() {
        bad(TEN + "^" + LAY, 2);
        bad(TEN + "\n ^lay d on d", 2);
        bad(TEN + "^b", 2);
        bad(TEN + "^;", 2);
        bad(TEN + "^abcdefghi", 1);
        good(TEN + " \n", 10);
    }

    @Says("the lower like the upper: 5")
    static void promise05OrderOfOnePlateOnItself() {
        bad("lay a on ^a turn 0 scrape a deep 1;", 5);
        bad(LAY + "lay c on ^c", 5);
    }

    @Says("5 a NAME that no PLATE has.")
    static void promise05OrderOfNamesThatNoPlateHas() {
        bad("lay ^d on a turn 0 scrape a deep 1;", 5);
        bad("lay b on ^d turn 0 scrape a deep 1;", 5);
        bad("lay b on a turn 0 scrape ^d deep 1;", 5);
        bad("lay ^bb on", 5);
        bad("lay ^stand on", 5);
        ThreePlates x = new ThreePlates();
        due("without plates", orderOf(x, LAY), -1);
        due("fault", x.fault(0), 5);
        due("place", x.fault(1), 4);
        due("shop", shopOf(x, TWO), 2);
        due("another shop without b", shopOf(x, "plate a" + ZEROS), 1);
        due("order", orderOf(x, LAY), -1);
        due("place", x.fault(1), 4);
    }

    @Says("scrape: one of both (else 5)")
    static void promise05OrderScrapesOneOfBoth() {
        bad("lay b on a turn 0 scrape ^c deep 1;", 5);
        bad("lay b on c turn 0 scrape ^a deep 10;", 5);
        good("lay b on a turn 0 scrape b deep 1;", 1);
        good("lay b on a turn 0 scrape a deep 1;", 1);
    }

    @Says("turn 0 .. 3")
    static void promise05OrderTurns() {
        for (int turn = 0; turn <= 3; turn++) {
            good("lay b on a turn " + turn + " scrape a deep 1;", 1);
        }
        // b's first corner is low: turned, it comes over another corner of a, which is then not scraped
        int[] low = {2, 8, 6, 0};
        for (int turn = 0; turn <= 3; turn++) {
            ThreePlates x = make("plate a" + ZEROS + "plate b -5 0 0 0 0 0 0 0 0;",
                "lay b on a turn " + turn + " scrape a deep 1;");
            due("round", x.round(0), 8);
            for (int cell = 0; cell < 9; cell++) {
                due("turn " + turn + ", cell " + cell, x.height(0, cell), cell == low[turn] ? 0 : -1);
            }
        }
        bad("lay b on a turn ^4 scrape a deep 1;", 4);
        bad("lay b on a turn ^9999 scrape", 4);
        bad("lay b on a turn ^-0 scrape", 2);
        bad("lay b on a turn ^scrape a", 2);
        bad("lay b on a turn ^00000", 1);
        bad("lay b on a turn ^0scrape a", 1);
    }

    @Says("by -1 .. 1 each (0 0 if not told)")
    static void promise05OrderShifts() {
        for (int u = -1; u <= 1; u++) {
            for (int v = -1; v <= 1; v++) {
                ThreePlates x = good("lay b on a turn 0 by " + u + " " + v + " scrape a deep 1;", 1);
                due("cells by " + u + " " + v, x.round(0), (3 - Math.abs(u)) * (3 - Math.abs(v)));
            }
        }
        due("not told", good(LAY, 1).round(0), 9);
        ThreePlates again = good("lay b on a turn 0 by 1 1 scrape a deep 1;" + LAY, 2);
        due("not that of the round before", again.round(1), 9);
        for (int i = 0; i < 2; i++) {
            due("another order", orderOf(again, LAY), 1);
            due("not that of the order before", again.round(0), 9);
        }
        bad("lay b on a turn 0 by ^2 0 scrape", 4);
        bad("lay b on a turn 0 by ^-2 0 scrape", 4);
        bad("lay b on a turn 0 by 0 ^2 scrape", 4);
        bad("lay b on a turn 0 by 0 ^- 2 scrape", 4);
        bad("lay b on a turn 0 by 1 ^scrape a deep 1;", 2);
        bad("lay b on a turn 0 by ^scrape a deep 1;", 2);
        bad("lay b on a turn 0 by 1 1 ^1 scrape a", 2);
        bad("lay b on a turn 0 by 1 1 ^by 1 1", 2);
        bad("lay b on a turn 0 by -^- 1", 2);
    }

    @Says("deep 1 .. 9.")
    static void promise05OrderDeep() {
        for (int deep = 1; deep <= 9; deep++) {
            ThreePlates x = good("lay b on a turn 0 scrape a deep " + deep + ";", 1);
            due("round", x.round(0), 9);
            due("deep " + deep, x.height(0, 0), -deep);
        }
        bad("lay b on a turn 0 scrape a deep ^0;", 4);
        bad("lay b on a turn 0 scrape a deep ^10;", 4);
        bad("lay b on a turn 0 scrape a deep ^-1;", 2);
        bad("lay b on a turn 0 scrape a deep ^;", 2);
    }

    @Says("stand for themselves (in ORDERS, too) and are no NAMES.")
    static void promise05OrderWordsThatAreNoNames() {
        for (String word : KEYWORDS) {
            bad("lay ^" + word + " on a", 2);
            bad("lay b on ^" + word + " turn", 2);
            bad("lay b on a turn 0 scrape ^" + word + " deep", 2);
        }
        for (String word : new String[] {"size", "plate", "red", "slip", "on", "turn", "by", "scrape", "deep", "a"}) {
            bad("^" + word, 2);
        }
        ThreePlates x = make("plate stand" + ZEROS + "plate lays" + ZEROS, "");
        due("other words are names", orderOf(x, "lay lays on stand turn 0 scrape stand deep 1;"), 1);
    }

    @Says("order = {lay NAME on NAME turn N [by V V] scrape NAME deep N ;}")
    static void promise05OrderEndsTooEarly() {
        String[] parts = {"lay", " b", " on", " a", " turn", " 0", " by", " 1", " -", "1", " scrape", " a", " deep", " 1"};
        StringBuilder text = new StringBuilder();
        for (String part : parts) {
            text.append(part);
            bad(text + "^", 2);
            bad(text + " \n^", 2);
        }
        good(text + ";", 1);
        bad(LAY + "^;", 2);
        bad(LAY + "^1", 2);
        bad("lay b ^a", 2);
        bad("lay b on a ^0", 2);
        bad("lay b on a turn 0 ^a", 2);
        bad("lay b on a turn 0 scrape a ^1;", 2);
        bad("lay b on a turn 0 scrape a deep 1 ^1;", 2);
    }

    @Says("NONE: a FAULT (that there is stays)")
    static void promise05OrderFaultLeavesTheOrder() {
        ThreePlates x = make(TWO, "lay b on a turn 0 scrape a deep 2;");
        due("a fault in the second round", orderOf(x, LAY + "lay b on a turn 0 scrape a deep 0;"), -1);
        due("one round", x.about(2), 1);
        due("round", x.round(0), 9);
        due("deep 2", x.height(0, 0), -2);
        due("no second one", x.round(1), -1);
        due("an order of nothing", orderOf(x, ""), 0);
        due("no round", x.round(0), -1);
    }

    @Says("The TAPE (empty then) is the ORDER: how many ROUNDS")
    static void promise05OrderChangesNothingElse() {
        ThreePlates x = make("slip 8;" + TWO, LAY);
        due("round", x.round(0), 9);
        x.warm(1, 0, 5);
        x.image(0);
        x.sight(0, 0, 0, 0, 3);
        int[] was = new int[9];
        for (int what = 0; what < 9; what++) {
            was[what] = x.about(what);
        }
        due("another order", orderOf(x, LAY + LAY), 2);
        was[2] = 2;
        dueAbout("behind another order", x, was);
        due("warm", x.seems(1, 0), 5);
        due("the box", x.back(0), 2);
    }
}
