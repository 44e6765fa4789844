/** Each promise of the document, with answers worked out by hand: ordinary inputs, edges, wrong inputs. */
public final class PromisesTest extends Checks {
    public static void main(String[] args) {
        newObject();
        feedAndEnd();
        shopTexts();
        shopForgets();
        orderTexts();
        orderTooLong();
        heights();
        turnsAndShifts();
        likePlanes();
        fractions();
        wrongLays();
        rounds();
        slips();
        lowest();
        lowestSlips();
        lowestDraws();
        slipBelowLowest();
        offAndFlat();
        warmth();
        hidden();
        hides();
        until();
        best();
        holes();
        edges();
        squares();
        cuts();
        feet();
        deepest();
        sights();
        spent();
        boxes();
        finish();
    }

    // 1, 6, 41
    private static void newObject() {
        ThreePlates x = new ThreePlates();
        int[] want = {0, 3, 0, 0, 0, 1, 0, 0, 0};
        for (int what = 0; what < 9; what++) {
            due("about " + what, x.about(what), want[what]);
        }
        due("about -1", x.about(-1), -1);
        due("about 9", x.about(9), -1);
        due("fault 0", x.fault(0), 0);
        due("fault 1", x.fault(1), -1);
        due("fault 2", x.fault(2), -1);
        due("back", x.back(0), -1);
    }

    // 2, 3
    private static void feedAndEnd() {
        ThreePlates x = new ThreePlates();
        due("end -1", x.end(-1), -1);
        due("end 1", x.end(1), -1);
        due("end 0", x.end(0), 0);
        for (int i = 1; i <= 60; i++) {
            due("feed " + i, x.feed(0x20202020, 0x20202020, 0x20202020, 0x20202020, 0x20202020), 20 * i);
        }
        due("feed 61", x.feed(0, 0, 0, 0, 0), -1);
        due("bytes", x.about(6), 1200);
        due("end 1201", x.end(1201), -1);
        due("end 1181", x.end(1181), 1181);
        due("feed at 1181", x.feed(0, 0, 0, 0, 0), -1);
        due("end 1180", x.end(1180), 1180);
        due("feed at 1180", x.feed(0x20202020, 0x20202020, 0x20202020, 0x20202020, 0x20202021), 1200);
        due("order of 1200", x.order(), -2);
        due("shop of blanks", x.shop(), -1);
        due("its fault", x.fault(0), 1);
        due("its place", x.fault(1), 1199);
        due("bytes then", x.about(6), 0);
    }

    /** A text with a ^ at the place of its fault. */
    private static void shopFault(String marked, int what) {
        ThreePlates x = new ThreePlates();
        due(marked, shopOf(x, "plate q" + ZEROS), 1);
        due(marked, shopOf(x, marked.replace("^", "")), -1);
        due("fault of " + marked, x.fault(0), what);
        due("place of " + marked, x.fault(1), marked.indexOf('^'));
        due("tape behind " + marked, x.about(6), 0);
        due("plates behind " + marked, x.about(0), 1);
    }

    private static void shopGood(String text, int plates) {
        ThreePlates x = new ThreePlates();
        due(text, shopOf(x, text), plates);
        due("fault of " + text, x.fault(0), 0);
        due("place of " + text, x.fault(1), -1);
    }

    // 4, 6
    private static void shopTexts() {
        shopGood("", 0);
        shopGood(" \n ", 0);
        shopGood("size 3;", 0);
        shopGood("size3;red20;slip8;", 0);
        shopGood("size 0003 ;\nred 0000;", 0);
        shopGood("plate a" + ZEROS, 1);
        shopGood("plate a1 -2 - 3 4-5 6 7 99 -99;", 1);
        shopGood("plate stand" + ZEROS + "plate abcdefgh" + ZEROS + "red 1;plate a" + ZEROS + "plate b" + ZEROS, 4);
        shopFault("^!", 1);
        shopFault("size 3;^\t", 1);
        shopFault("^Size 3;", 1);
        shopFault("^abcdefghi 3;", 1);
        shopFault("size ^12345;", 1);
        shopFault("size ^3a;", 1);
        shopFault("plate a 1 ^2b", 1);
        shopFault("^" + (char) 233, 1);
        shopFault("^a", 2);
        shopFault("^;", 2);
        shopFault("^3", 2);
        shopFault("^lay b on a turn 0 scrape a deep 1;", 2);
        shopFault("size^", 2);
        shopFault("size 3^", 2);
        shopFault("size 3  ^", 2);
        shopFault("size ^-3;", 2);
        shopFault("size 3 ^4;", 2);
        shopFault("size 3;^size 3;", 2);
        shopFault("plate a" + ZEROS + "^size 3;", 2);
        shopFault("red 1;slip 1;^red 1;", 2);
        shopFault("slip 1;^slip 0;", 2);
        shopFault("plate ^red" + ZEROS, 2);
        shopFault("plate ^deep" + ZEROS, 2);
        shopFault("plate a^;", 2);
        shopFault("plate a 1 2 3 4 5 6 7 8^;", 2);
        shopFault("plate a 1 2 3 4 5 6 7 8 9 ^100;", 2);
        shopFault("plate a 1 2 3 4 5 6 7 8 9 ^-1;", 2);
        shopFault("plate a 1 -^;", 2);
        shopFault("plate a 1 - ^-2", 2);
        shopFault("plate a" + ZEROS + "plate b" + ZEROS + "plate c" + ZEROS + "plate d" + ZEROS + "^plate a", 2);
        shopFault("plate a" + ZEROS + "plate ^a 100", 3);
        shopFault("size ^2;", 4);
        shopFault("size ^6!", 4);
        shopFault("red ^21;", 4);
        shopFault("slip ^9;", 4);
        shopFault("plate a ^100", 4);
        shopFault("plate a 1 ^-100 x", 4);
        shopFault("plate a 1 ^- 100 x", 4);
    }

    // 4
    private static void shopForgets() {
        ThreePlates x = make("plate a" + ZEROS + "plate b" + ZEROS, LAY);
        due("seed", x.seed(77), 1);
        x.cut(1, 1);
        x.round(0);
        x.warm(0, 0, 9);
        x.stand(1, 0, 1, 2, 9);
        x.image(0);
        x.sight(0, 0, 0, 0, 1);
        due("fault keeps all", shopOf(x, "plate"), -1);
        int[] kept = {2, 3, 1, 9, 9, 77, 0, 1, 1};
        for (int what = 0; what < 9; what++) {
            due("kept " + what, x.about(what), kept[what]);
        }
        due("kept seems", x.seems(0, 0), 8);
        due("kept sag", x.seems(1, 8), -9);
        due("kept box", x.back(0), 2);
        due("same shop", shopOf(x, "plate a" + ZEROS + "plate b" + ZEROS), 2);
        int[] fresh = {2, 3, 0, 0, 0, 77, 0, 1, 0};
        for (int what = 0; what < 9; what++) {
            due("fresh " + what, x.about(what), fresh[what]);
        }
        due("fresh height", x.height(0, 0), 0);
        due("fresh seems", x.seems(0, 0), 0);
        due("fresh sag", x.seems(1, 8), 0);
        due("fresh box", x.back(0), -1);
    }

    private static void orderFault(String marked, int what) {
        ThreePlates x = make("plate a" + ZEROS + "plate b" + ZEROS + "plate c" + ZEROS, LAY + LAY);
        due(marked, orderOf(x, marked.replace("^", "")), -1);
        due("fault of " + marked, x.fault(0), what);
        due("place of " + marked, x.fault(1), marked.indexOf('^'));
        due("tape behind " + marked, x.about(6), 0);
        due("rounds behind " + marked, x.about(2), 2);
    }

    private static void orderGood(String text, int rounds) {
        ThreePlates x = make("plate a" + ZEROS + "plate b" + ZEROS + "plate c" + ZEROS, LAY);
        due(text, orderOf(x, text), rounds);
        due("fault of " + text, x.fault(0), 0);
        due("place of " + text, x.fault(1), -1);
        due("rounds of " + text, x.about(2), rounds);
    }

    // 5, 6
    private static void orderTexts() {
        String ten = LAY + LAY + LAY + LAY + LAY + LAY + LAY + LAY + LAY + LAY;
        orderGood("", 0);
        orderGood(" \n", 0);
        orderGood(LAY, 1);
        orderGood(ten, 10);
        orderGood("lay a on c turn3 by-1-\n1 scrape c deep9;", 1);
        orderFault(ten + "^lay", 2);
        orderFault(ten + "^!", 1);
        orderFault("^b", 2);
        orderFault("lay ^d on", 5);
        orderFault("lay ^on on", 2);
        orderFault("lay ^size on", 2);
        orderFault("lay b ^a", 2);
        orderFault("lay b on ^b turn", 5);
        orderFault("lay b on ^x turn", 5);
        orderFault("lay b on a ^scrape", 2);
        orderFault("lay b on a turn ^4", 4);
        orderFault("lay b on a turn ^-1", 2);
        orderFault("lay b on a turn ^0by 1 1", 1);
        orderFault("lay b on a turn 0 by ^2 0", 4);
        orderFault("lay b on a turn 0 by ^-2 0", 4);
        orderFault("lay b on a turn 0 by 1 ^-2 ", 4);
        orderFault("lay b on a turn 0 by 1 ^scrape", 2);
        orderFault("lay b on a turn 0 scrape ^c deep 1;", 5);
        orderFault("lay b on a turn 0 scrape ^d deep 1;", 5);
        orderFault("lay b on a turn 0 scrape a deep ^0;", 4);
        orderFault("lay b on a turn 0 scrape a deep ^10;", 4);
        orderFault("lay b on a turn 0 scrape a deep 1^", 2);
        orderFault("lay b on a turn 0 scrape a deep 1;^;", 2);
        orderFault("lay b on a turn 0 scrape a ^1;", 2);
        ThreePlates none = new ThreePlates();
        due("order without plates", orderOf(none, "lay b on a"), -1);
        due("its fault", none.fault(0), 5);
        due("its place", none.fault(1), 4);
    }

    // 5, 6
    private static void orderTooLong() {
        ThreePlates x = make("plate a" + ZEROS + "plate b" + ZEROS, "");
        due("fault", orderOf(x, "lay"), -1);
        feedText(x, LAY + " ".repeat(467));
        due("501 bytes", x.order(), -2);
        due("they stay", x.about(6), 501);
        due("the fault before stays", x.fault(0), 2);
        due("its place stays", x.fault(1), 3);
        due("end 500", x.end(500), 500);
        due("500 bytes", x.order(), 1);
    }

    // 7, 8
    private static void heights() {
        ThreePlates x = make("size 4;plate a 1 2 3 4 5 6 7 8 9 10 11 12 13 14 15 -16;", "");
        due("first", x.height(0, 0), 1);
        due("last", x.height(0, 15), -16);
        due("seems", x.seems(0, 15), -16);
        int[][] bad = {{-1, 0}, {1, 0}, {4, 0}, {0, -1}, {0, 16}};
        for (int[] b : bad) {
            due("height", x.height(b[0], b[1]), -100000);
            due("seems", x.seems(b[0], b[1]), -100000);
        }
    }

    // 9, 10, 11, 12: b has one low corner, which comes to lie as it is turned
    private static void turnsAndShifts() {
        ThreePlates x = make("plate a" + ZEROS + "plate b -5 0 0 0 0 0 0 0 0;red 1;", "");
        int[] low = {2, 8, 6, 0};
        for (int turn = 0; turn < 4; turn++) {
            for (int cell = 0; cell < 9; cell++) {
                due("gap " + turn + " " + cell, x.gap(0, 1, turn, 0, 0, cell, 0), cell == low[turn] ? 5 : 0);
                due("lower part", x.gap(0, 1, turn, 0, 0, cell, 1), 1);
            }
            due("reds", x.lay(0, 1, turn, 0, 0, 0), 8);
            due("pairs", x.lay(0, 1, turn, 0, 0, 1), 9);
            due("air", x.air(0, 1, turn, 0, 0, 0), 5);
            due("air below", x.air(0, 1, turn, 0, 0, 1), 1);
            due("lift 4", x.lift(0, 1, turn, 0, 0, 4), 0);
            due("lift 5", x.lift(0, 1, turn, 0, 0, 5), 1);
        }
        due("pairs 1 0", x.lay(0, 1, 0, 1, 0, 1), 6);
        due("pairs 0 -1", x.lay(0, 1, 0, 0, -1, 1), 6);
        due("pairs -1 1", x.lay(0, 1, 0, -1, 1, 1), 4);
        due("nothing over", x.gap(0, 1, 0, -1, 1, 2, 0), -1);
        due("shifted off the low corner", x.air(0, 1, 0, 1, 0, 0), 0);
    }

    // 9, 10: by -1 1 the low corner lies over cell 4 of cells 3 4 6 7, two planes are as low over the middle
    private static void likePlanes() {
        ThreePlates x = make("plate a" + ZEROS + "plate b -5 0 0 0 0 0 0 0 0;", "");
        due("gap 3", x.gap(0, 1, 0, -1, 1, 3, 0), 0);
        due("gap 4", x.gap(0, 1, 0, -1, 1, 4, 0), 0);
        due("gap 6", x.gap(0, 1, 0, -1, 1, 6, 0), 5);
        due("gap 7", x.gap(0, 1, 0, -1, 1, 7, 0), 0);
        due("reds", x.lay(0, 1, 0, -1, 1, 0), 3);
    }

    // 10, 11, 15: of 4 by 4 the corner 0 stands up by 5: lowest over the middle through it and the far corner
    private static void fractions() {
        ThreePlates x = make("size 4;plate a 5 0 0 0 0 0 0 0 0 0 0 0 0 0 0 0;plate b 0 0 0 0 0 0 0 0 0 0 0 0 0 0 0 0;", "");
        // cells 0, 3, 12 and 15: through 0, 3, 15 z = 5 - 5x/3, which is also above all, comes ahead of 0, 12, 15
        due("off", x.off(0, 0), 5);
        due("off below", x.off(0, 1), 1);
        due("gap 1", x.gap(0, 1, 0, 0, 0, 1, 0), 10);
        due("gap 1 below", x.gap(0, 1, 0, 0, 0, 1, 1), 3);
        due("gap 4", x.gap(0, 1, 0, 0, 0, 4, 0), 5);
        due("gap 6", x.gap(0, 1, 0, 0, 0, 6, 0), 5);
        due("gap 6 below", x.gap(0, 1, 0, 0, 0, 6, 1), 3);
        // the columns' gaps: 15, then 4 * 10/3, 4 * 5/3, 0: 35 in all
        due("air", x.air(0, 1, 0, 0, 0, 0), 35);
        due("air below", x.air(0, 1, 0, 0, 0, 1), 1);
        due("lift 4", x.lift(0, 1, 0, 0, 0, 4), 0);
        due("lift 5", x.lift(0, 1, 0, 0, 0, 5), 1);
        due("edge of row 0", x.edge(0, true, 0, 0), 10);
        due("edge of row 0 below", x.edge(0, true, 0, 1), 3);
    }

    // 9, 10, 11, 12
    private static void wrongLays() {
        ThreePlates x = make("plate a" + ZEROS + "plate b" + ZEROS, "");
        int[][] bad = {{-1, 1, 0, 0, 0}, {2, 1, 0, 0, 0}, {0, -1, 0, 0, 0}, {0, 2, 0, 0, 0}, {1, 1, 0, 0, 0},
            {0, 1, -1, 0, 0}, {0, 1, 4, 0, 0}, {0, 1, 0, -2, 0}, {0, 1, 0, 2, 0}, {0, 1, 0, 0, -2}, {0, 1, 0, 0, 2}};
        for (int[] b : bad) {
            due("lay", x.lay(b[0], b[1], b[2], b[3], b[4], 0), -1);
            due("gap", x.gap(b[0], b[1], b[2], b[3], b[4], 4, 0), -1);
            due("air", x.air(b[0], b[1], b[2], b[3], b[4], 0), -1);
            due("lift", x.lift(b[0], b[1], b[2], b[3], b[4], 0), -1);
        }
        for (int part : new int[] {-1, 2}) {
            due("lay", x.lay(0, 1, 0, 0, 0, part), -1);
            due("gap", x.gap(0, 1, 0, 0, 0, 4, part), -1);
            due("air", x.air(0, 1, 0, 0, 0, part), -1);
        }
        due("cell -1", x.gap(0, 1, 0, 0, 0, -1, 0), -1);
        due("cell 9", x.gap(0, 1, 0, 0, 0, 9, 0), -1);
        due("lift -1", x.lift(0, 1, 0, 0, 0, -1), -1);
        due("lift 1000", x.lift(0, 1, 0, 0, 0, 1000), -1);
        due("lift 999", x.lift(0, 1, 0, 0, 0, 999), 1);
    }

    // 13, 14, 41
    private static void rounds() {
        ThreePlates x = make("plate a" + ZEROS + "plate b -5 0 0 0 0 0 0 0 0;",
            "lay b on a turn 0 scrape a deep 2;lay b on a turn 0 scrape b deep 3;lay a on b turn 1 by 1 1 scrape b deep 1;");
        due("round -1", x.round(-1), -1);
        due("round 3", x.round(3), -1);
        due("round 1", x.round(1), 8);
        due("not red: not scraped", x.height(1, 0), -5);
        due("scraped", x.height(1, 8), -3);
        due("the other one stays", x.height(0, 8), 0);
        due("iron", x.about(4), 24);
        due("no draw", x.about(5), 1);
        due("run -1", x.run(-1), -1);
        due("run 301", x.run(301), -1);
        due("run 0", x.run(0), 8);
        ThreePlates y = make("plate a" + ZEROS + "plate b" + ZEROS, LAY + "lay b on a turn 0 scrape b deep 2;");
        due("run 3", y.run(3), 27);
        due("a twice", y.height(0, 4), -2);
        due("b once", y.height(1, 4), -2);
        due("again from the first", y.run(1), 36);
        due("a", y.height(0, 4), -3);
        due("strokes", y.about(3), 36);
        due("iron", y.about(4), 27 + 18);
        // over two by two cells of a: a turned about by one quarter and shifted
        ThreePlates z = make("plate a" + ZEROS + "plate b" + ZEROS, "lay a on b turn 0 by 1 0 scrape a deep 1;");
        due("six", z.round(0), 6);
        // over b's x 1, 2 lie a's cells whose turned x is 0, 1: a's x 2, 1
        due("x 0", z.height(0, 3), 0);
        due("x 1", z.height(0, 4), -1);
        due("x 2", z.height(0, 5), -1);
    }

    // 13: slip 8 always slips
    private static void slips() {
        ThreePlates x = make("slip 8;plate a" + ZEROS + "plate b" + ZEROS, "lay b on a turn 0 scrape a deep 2;");
        due("strokes", x.round(0), 9);
        due("first of a row", x.height(0, 3), -3);
        due("second", x.height(0, 4), -4);
        due("last", x.height(0, 5), -4);
        due("iron", x.about(4), 33);
        int w = 1;
        for (int i = 0; i < 9; i++) {
            w = w * 1103515245 + 12345;
        }
        due("w", x.about(5), w);
        ThreePlates y = make("slip 1;plate a" + ZEROS + "plate b" + ZEROS, "lay b on a turn 0 scrape b deep 1;");
        y.seed(5);
        int[] want = new int[9];
        int v = 5;
        for (int c = 0; c < 9; c++) {
            want[c]--;
            v = v * 1103515245 + 12345;
            if ((v >>> 16) % 8 < 1) {
                want[c]--;
                if (c % 3 < 2) {
                    want[c + 1]--;
                }
            }
        }
        due("strokes", y.round(0), 9);
        for (int c = 0; c < 9; c++) {
            due("cell " + c, y.height(1, c), want[c]);
        }
        due("w", y.about(5), v);
    }

    // 13, 14: 112 times 9 is the first below -999
    private static void lowest() {
        ThreePlates x = make("plate a" + ZEROS + "plate b" + ZEROS, "lay b on a turn 0 scrape a deep 9;");
        due("run 111", x.run(111), 999);
        due("height", x.height(0, 0), -999);
        due("run 189", x.run(189), 1008);
        due("height", x.height(0, 0), -1008);
        due("iron", x.about(4), 9072);
        due("round", x.round(0), 0);
        due("best takes nothing", x.best(1, 0), 0);
        ThreePlates y = make("slip 8;plate a" + ZEROS + "plate b" + ZEROS, "lay b on a turn 0 scrape a deep 9;");
        y.run(300);
        int w = y.about(5);
        int iron = y.about(4);
        due("nothing drawn", y.round(0), 0);
        due("w", y.about(5), w);
        due("iron", y.about(4), iron);
    }

    /** A w from which the first of nine draws is below 1 or not, and no other one is. */
    private static int seedFor(boolean firstSlips) {
        for (int seed = 0; seed < 1000000; seed++) {
            int w = seed;
            boolean good = true;
            for (int i = 0; i < 9; i++) {
                w = w * 1103515245 + 12345;
                good &= (w >>> 16) % 8 < 1 == (firstSlips && i == 0);
            }
            if (good) {
                return seed;
            }
        }
        return 0;
    }

    private static ThreePlates atLowest() {
        ThreePlates x = make("slip 1;plate a" + ZEROS + "plate b" + ZEROS, "lay b on a turn 0 scrape a deep 9;");
        for (int i = 0; i < 111; i++) {
            x.seed(seedFor(false));
            x.round(0);
        }
        return x;
    }

    // 13: at -999 the first cell slips when deep has brought it below: it gets no less by that, but the next one
    // does, and is then too low for its own stroke
    private static void lowestSlips() {
        ThreePlates x = atLowest();
        due("height", x.height(0, 1), -999);
        int iron = x.about(4);
        x.seed(seedFor(true));
        due("strokes", x.round(0), 8);
        due("cell 0", x.height(0, 0), -1008);
        due("cell 1", x.height(0, 1), -1000);
        due("cell 2", x.height(0, 2), -1008);
        due("iron", x.about(4) - iron, 73);
        due("best by nothing", x.best(1, 999), 0);
    }

    // 13, 22: each stroke has its draw, one that brings its cell below -999, too
    private static void lowestDraws() {
        ThreePlates x = atLowest();
        x.seed(seedFor(false));
        int drawn = seedFor(false);
        for (int i = 0; i < 9; i++) {
            drawn = drawn * 1103515245 + 12345;
        }
        due("strokes", x.round(0), 9);
        due("w", x.about(5), drawn);
    }

    // 13, 14, 22: -991 and deep 9 make -1000, which its slip leaves as it is
    private static void slipBelowLowest() {
        ThreePlates x = make("red 20;slip 8;plate a" + ZEROS + "plate b 99 99 99 99 99 99 99 99 99;",
            "lay a on b turn 0 scrape b deep 9;");
        due("run 109", x.run(109), 930);
        due("height", x.height(1, 0), -991);
        int iron = x.about(4);
        due("best", x.best(1, 999), 27);
        due("round", x.round(0), 3);
        due("height", x.height(1, 0), -1000);
        due("iron", x.about(4) - iron, 27);
    }

    // 15, 16
    private static void offAndFlat() {
        ThreePlates x = make("plate a 0 0 0 0 3 0 0 0 0;plate b 1 2 3 2 3 4 3 4 5;plate c 0 0 0 0 -7 0 0 0 0;", "");
        // through cells 0, 1, 4 (first of like ones): z = 3y
        due("off a", x.off(0, 0), 6);
        due("off b, a plane", x.off(1, 0), 0);
        due("lower part of 0", x.off(1, 1), 1);
        due("off c", x.off(2, 0), 7);
        due("off -1", x.off(-1, 0), -1);
        due("off 3", x.off(3, 0), -1);
        due("part", x.off(0, 2), -1);
        due("flat 6", x.flat(6), 0);
        due("flat 7", x.flat(7), 1);
        due("flat 999", x.flat(999), 1);
        due("flat -1", x.flat(-1), -1);
        due("flat 1000", x.flat(1000), -1);
    }

    // 17, 18, 8
    private static void warmth() {
        ThreePlates x = make("plate a" + ZEROS + "plate b" + ZEROS, LAY);
        due("warm", x.warm(0, 0, 7), true);
        int[] want = {7, 3, 0, 3, 0, 0, 0, 0, 0};
        for (int c = 0; c < 9; c++) {
            due("seems " + c, x.seems(0, c), want[c]);
            due("height " + c, x.height(0, c), 0);
            due("other " + c, x.seems(1, c), 0);
        }
        due("off by heights", x.off(0, 0), 0);
        due("lays by what it seems", x.lift(0, 1, 0, 0, 0, 0), 0);
        due("rest 0", x.rest(0), true);
        due("rest -1", x.rest(-1), false);
        due("rest 1001", x.rest(1001), false);
        due("rest 4", x.rest(4), true);
        due("7 less 4", x.seems(0, 0), 3);
        due("none below 0", x.seems(0, 1), 0);
        due("warm 0", x.warm(0, 0, 0), false);
        due("warm 21", x.warm(0, 0, 21), false);
        due("plate 2", x.warm(2, 0, 1), false);
        due("cell 9", x.warm(0, 9, 1), false);
        due("cell -1", x.warm(0, -1, 1), false);
        due("warm 1", x.warm(0, 4, 1), true);
        due("half of 1", x.seems(0, 5), 0);
        for (int i = 0; i < 6; i++) {
            due("warm 20", x.warm(1, 5, 20), true);
        }
        due("99 at most", x.seems(1, 5), 99);
        due("60", x.seems(1, 2), 60);
        due("not over the row's end", x.seems(1, 6), 0);
        due("rest 1000", x.rest(1000), true);
        due("cold", x.seems(1, 5), 0);
    }

    // 19
    private static void hidden() {
        due("no plates", new ThreePlates().hidden(), 0);
        ThreePlates x = make("plate a" + ZEROS + "plate b" + ZEROS, "");
        due("no rounds", x.hidden(), 12);
        orderOf(x, LAY);
        due("9 told, 3 more", x.hidden(), 6);
        orderOf(x, LAY + LAY);
        due("the same again tells no more", x.hidden(), 6);
        orderOf(x, "lay b on a turn 0 by 1 0 scrape a deep 1;");
        due("6 told, 3 more", x.hidden(), 9);
        x.warm(0, 0, 5);
        due("whatever they seem", x.hidden(), 9);
    }

    // 20
    private static void hides() {
        due("no rounds", new ThreePlates().hides(), -1);
        ThreePlates x = make("red 1;plate a 0 0 0 0 -5 0 0 0 0;plate b 0 0 0 0 5 0 0 0 0;plate c" + ZEROS, LAY);
        due("they hide it", x.hides(), 1);
        orderOf(x, LAY + "lay c on a turn 0 scrape a deep 1;");
        due("three do not", x.hides(), 0);
        orderOf(x, LAY);
        x.warm(1, 0, 3);
        due("by what they seem", x.hides(), 0);
        x.rest(3);
        due("cold again", x.hides(), 1);
        ThreePlates y = make("red 4;plate a 0 0 0 0 -5 0 0 0 0;plate b" + ZEROS, LAY);
        due("gap 5, red 4", y.hides(), 0);
        ThreePlates z = make("red 5;plate a 0 0 0 0 -5 0 0 0 0;plate b" + ZEROS, LAY);
        due("gap 5, red 5", z.hides(), 1);
    }

    // 21
    private static void until() {
        // all but the dip are red: each round takes one, so the dip of 3 is gone behind three
        ThreePlates x = make("slip 0;plate a 0 0 0 0 -3 0 0 0 0;plate b" + ZEROS, LAY);
        due("until 3", x.until(3), 0);
        due("until 2", x.until(2), 1);
        due("until 0", x.until(0), 3);
        due("until -1", x.until(-1), -1);
        due("until 1000", x.until(1000), -1);
        due("nothing is done", x.height(0, 0), 0);
        due("no strokes", x.about(3), 0);
        orderOf(x, "lay b on a turn 0 scrape b deep 1;");
        // b gets lower all over but where the dip is, and never flat with it
        due("more than 300", x.until(0), -1);
        orderOf(x, "");
        due("no rounds", x.until(999), -1);
        ThreePlates y = make("slip 3;plate a 0 0 0 0 -3 0 0 0 0;plate b" + ZEROS, LAY);
        int w = y.about(5);
        y.until(0);
        due("w stays", y.about(5), w);
        // a's dip gets 1 less every second round
        String idle = "lay d on c turn 0 scrape c deep 1;";
        String others = "plate b" + ZEROS + "plate c" + ZEROS + "plate d" + ZEROS;
        ThreePlates z = make("plate a 99 99 99 99 -51 99 99 99 99;" + others, idle + LAY);
        due("150 less, the last one in round 300", z.until(0), 300);
        orderOf(z, LAY + idle);
        due("one round earlier", z.until(0), 299);
        ThreePlates v = make("plate a 99 99 99 99 -52 99 99 99 99;" + others, LAY + idle);
        due("round 301 is too late", v.until(0), -1);
    }

    // 22, 23
    private static void best() {
        ThreePlates x = make("plate a 0 0 0 0 -2 0 0 0 0;plate b" + ZEROS,
            "lay b on a turn 0 scrape b deep 1;lay b on a turn 0 scrape a deep 2;lay b on a turn 0 scrape a deep 1;");
        // round 1 takes 2 of eight cells, rounds 2 and 2 take 1 of eight twice
        due("one round", x.best(1, 0), 16);
        due("which", x.bestRound(1, 0, 0), 1);
        due("two rounds", x.best(2, 0), 16);
        due("first of like ones", x.bestRound(2, 0, 0), 2);
        due("then", x.bestRound(2, 0, 1), 2);
        due("one round for 1", x.best(1, 1), 8);
        due("which: b is off by 1, too", x.bestRound(1, 1, 0), 2);
        due("for 2 the first", x.best(1, 2), 8);
        due("which", x.bestRound(1, 2, 0), 0);
        due("nothing is done", x.about(4), 0);
        due("heights", x.height(0, 0), 0);
        due("m 0", x.best(0, 0), -1);
        due("m 4", x.best(4, 0), -1);
        due("n -1", x.best(1, -1), -1);
        due("n 1000", x.best(1, 1000), -1);
        due("j -1", x.bestRound(1, 0, -1), -1);
        due("j 1", x.bestRound(1, 0, 1), -1);
        due("j 3", x.bestRound(3, 0, 3), -1);
        x.round(1);
        due("found anew: any takes nine", x.best(1, 0), 9);
        due("the first", x.bestRound(1, 0, 0), 0);
        orderOf(x, "");
        due("no rounds", x.best(1, 0), -1);
        due("no rounds", x.bestRound(1, 0, 0), -1);
    }

    // 24
    private static void holes() {
        ThreePlates x = make("plate a 0 0 0 0 3 0 0 0 0;plate b 0 0 0 0 -1 0 0 0 0;", "");
        due("a top of 3", x.hole(0, 0), 3);
        due("lower part", x.hole(0, 1), 1);
        // through cells 0, 1, 4: z = -y, so row 1 has 1 twice, row 2 has 2 three times
        due("a dip of 1", x.hole(1, 0), 8);
        due("plate -1", x.hole(-1, 0), -1);
        due("plate 2", x.hole(2, 0), -1);
        due("part 2", x.hole(0, 2), -1);
        x.warm(0, 0, 9);
        due("by heights", x.hole(0, 0), 3);
        ThreePlates y = make("size 4;plate a -5 0 0 0 0 0 0 0 0 0 0 0 0 0 0 0;", "");
        due("35 as in the air", y.hole(0, 0), 35);
    }

    // 25
    private static void edges() {
        ThreePlates x = make("plate a 0 2 0 5 1 1 9 -3 9;", "");
        due("first of like ones: cells 0, 1", x.edge(0, true, 0, 0), 4);
        due("5 1 1: through the ends", x.edge(0, true, 1, 0), 2);
        due("9 -3 9", x.edge(0, true, 2, 0), 12);
        // 0 5 9: cells 0, 1 rest ahead of cells 1, 2
        due("column 0", x.edge(0, false, 0, 0), 1);
        // 2 1 -3: cells 0, 1: z = 2 - y; gap 3
        due("column 1", x.edge(0, false, 1, 0), 3);
        due("column 2", x.edge(0, false, 2, 0), 7);
        due("column 2: 0 1 9, through the ends, half", x.edge(0, false, 2, 1), 2);
        due("row 3", x.edge(0, true, 3, 0), -1);
        due("row -1", x.edge(0, true, -1, 0), -1);
        due("plate 1", x.edge(1, true, 0, 0), -1);
        due("part 2", x.edge(0, true, 0, 2), -1);
        x.warm(0, 0, 20);
        due("by heights", x.edge(0, true, 0, 0), 4);
    }

    // 26
    private static void squares() {
        ThreePlates x = new ThreePlates();
        due("a", x.square(5, 2, 4, 0, 0), 7);
        due("a below", x.square(5, 2, 4, 0, 1), 2);
        due("b", x.square(5, 2, 4, 1, 0), 3);
        due("c", x.square(5, 2, 4, 2, 0), 1);
        due("nothing", x.square(0, 0, 0, 2, 1), 1);
        due("below 0", x.square(-3, 3, -4, 0, 0), -5);
        due("below 0, below", x.square(-3, 3, -4, 0, 1), 1);
        due("most", x.square(9999, -9999, 9999, 0, 0), 29997);
        int[][] bad = {{10000, 0, 0, 0, 0}, {0, 10000, 0, 0, 0}, {0, 0, 10000, 0, 0}, {-10000, 0, 0, 0, 0},
            {0, -10000, 0, 0, 0}, {0, 0, -10000, 0, 0}, {0, 0, 0, -1, 0}, {0, 0, 0, 3, 0}, {0, 0, 0, 0, -1},
            {0, 0, 0, 0, 2}, {Integer.MIN_VALUE, 0, 0, 0, 0}};
        for (int[] b : bad) {
            due("bad", x.square(b[0], b[1], b[2], b[3], b[4]), -100000);
        }
    }

    // 27, 28, 29, 30
    private static void cuts() {
        ThreePlates x = new ThreePlates();
        due("all fit", x.fits(), 180);
        due("deep 10", x.cut(10, 1), -1);
        due("deep 0", x.cut(0, 1), -1);
        due("taken -1", x.cut(1, -1), -1);
        due("taken 100", x.cut(1, 100), -1);
        due("cut", x.cut(9, 27), 1);
        // 9 f / 10 is 27 at f 30 alone, 26 at 29, 25 at 28, 24 at 27, 23 at 26, 22 at 25: 1 + 2 + .. + 6
        due("fits", x.fits(), 21);
        due("s", x.tight(0), 0);
        due("f", x.tight(1), 30);
        due("cut", x.cut(9, 25), 2);
        // 25 .. 27: s 2 with f 28, s 3 with 27, 28, ..: 1 + 2 + 3 + 4
        due("fits", x.fits(), 10);
        due("s", x.tight(0), 2);
        due("f", x.tight(1), 28);
        due("tight -1", x.tight(-1), -1);
        due("tight 2", x.tight(2), -1);
        due("cut", x.cut(1, 99), 3);
        due("none fits", x.fits(), 0);
        due("tight", x.tight(0), -1);
        for (int i = 4; i <= 40; i++) {
            due("cut", x.cut(1, 0), i);
        }
        due("a 41st", x.cut(1, 0), -1);
        due("cuts", x.about(7), 40);
        due("another shop", shopOf(x, ""), 0);
        due("leaves them", x.about(7), 40);
        due("clear", x.clear(), 40);
        due("clear", x.clear(), 0);
        due("all fit", x.fits(), 180);
    }

    // 31, 8
    private static void feet() {
        ThreePlates x = make("size 5;plate a" + " 0".repeat(25) + ";plate b" + " 0".repeat(25) + ";", "");
        due("one line will do", x.stand(0, 0, 1, 2, 9), true);
        due("a foot", x.seems(0, 1), 0);
        due("beside: 9 / 4", x.seems(0, 3), -2);
        due("the far corner: 2, 4 from foot 2", x.seems(0, 24), -45);
        due("below foot 0: 4 down", x.seems(0, 20), -36);
        due("the other one", x.seems(1, 24), 0);
        due("height", x.height(0, 24), 0);
        due("anew", x.stand(0, 20, 24, 0, 1), true);
        due("middle: 8 / 4", x.seems(0, 12), -2);
        due("soft 0", x.stand(0, 20, 24, 0, 0), true);
        due("no sag", x.seems(0, 12), 0);
        boolean[] none = {x.stand(2, 0, 1, 2, 1), x.stand(-1, 0, 1, 2, 1), x.stand(0, -1, 1, 2, 1),
            x.stand(0, 0, 25, 2, 1), x.stand(0, 0, 1, 25, 1), x.stand(0, 1, 1, 2, 1), x.stand(0, 0, 2, 2, 1),
            x.stand(0, 2, 1, 2, 1), x.stand(0, 0, 1, 2, -1), x.stand(0, 0, 1, 2, 10)};
        for (boolean answer : none) {
            due("no stand", answer, false);
        }
        due("still no sag", x.seems(0, 12), 0);
    }

    // 32
    private static void deepest() {
        ThreePlates x = make("slip 8;plate a 0 0 0 0 -4 0 0 0 0;plate b" + ZEROS, LAY + "lay b on a turn 0 scrape b deep 1;");
        due("4 less all around the dip", x.deepest(0, 0), 4);
        due("flat then", x.deepest(0, 1), 0);
        due("flat then", x.deepest(0, 2), 1);
        due("b: the least does least harm", x.deepest(1, 0), 1);
        // b keeps its middle: a top of 1, z = y from row 0 on
        due("b's off", x.deepest(1, 1), 2);
        due("what -1", x.deepest(0, -1), -1);
        due("what 3", x.deepest(0, 3), -1);
        due("round 2", x.deepest(2, 0), -1);
        due("round -1", x.deepest(-1, 0), -1);
        due("nothing is done", x.height(0, 0), 0);
        due("nothing is drawn", x.about(5), 1);
    }

    // 33, 34, 35, 36, 37
    private static void sights() {
        ThreePlates x = make("plate a" + ZEROS + "plate b" + ZEROS, "");
        due("all", x.worlds(), 343);
        due("world 342", x.world(342), 342);
        due("world 343", x.world(343), -1);
        due("world -1", x.world(-1), -1);
        due("least off", x.known(false, 0), 0);
        due("part", x.known(false, 2), -1);
        int[][] bad = {{2, 0, 0, 0, 0}, {-1, 0, 0, 0, 0}, {0, -1, 0, 0, 0}, {0, 4, 0, 0, 0}, {0, 0, -2, 0, 0},
            {0, 0, 2, 0, 0}, {0, 0, 0, -2, 0}, {0, 0, 0, 2, 0}, {0, 0, 0, 0, -1}, {0, 0, 0, 0, 512}};
        for (int[] b : bad) {
            due("bad", x.sight(b[0], b[1], b[2], b[3], b[4]), -1);
        }
        due("none yet", x.about(8), 0);
        // p X X alone, p above 0: the columns at both ends touch, the middle one hangs 4 p below
        int ends = 0b101101101;
        due("sight", x.sight(0, 0, 0, 0, ends), 0);
        due("p 1, 2, 3 with q, r 0", x.worlds(), 3);
        due("p 1", x.world(0), 49 * 4 + 7 * 3 + 3);
        due("p 3", x.world(2), 49 * 6 + 7 * 3 + 3);
        due("least", x.known(false, 0), 4);
        due("most", x.known(true, 0), 12);
        due("below", x.known(true, 1), 1);
        due("ask: plate", x.ask(0), 0);
        due("ask: turn", x.ask(1), 0);
        due("ask: all look alike", x.ask(2), 1);
        due("ask 3", x.ask(3), -1);
        due("ask -1", x.ask(-1), -1);
        // a warm middle of b would part them: 8 up, p 3 is 12 below
        x.warm(1, 4, 20);
        due("ask b then", x.ask(0), 1);
        x.warm(0, 4, 1);
        due("as it seems when it is asked: p 1 hangs 3 below", x.worlds(), 3);
        x.warm(0, 4, 1);
        x.warm(0, 4, 1);
        x.warm(0, 4, 1);
        due("p 1 touches in the middle now", x.worlds(), 2);
        x.rest(1000);
        due("cold", x.worlds(), 3);
        due("turned by a quarter: rows", x.sight(0, 1, 0, 0, 0b111000111), 1);
        due("the same", x.worlds(), 3);
        due("nothing red", x.sight(1, 0, 0, 0, 0), 2);
        due("none fits", x.worlds(), 0);
        due("world 0", x.world(0), -1);
        due("known", x.known(false, 0), -1);
        due("ask", x.ask(0), -1);
        for (int i = 3; i < 20; i++) {
            due("sight", x.sight(1, 0, 0, 0, 511), i);
        }
        due("a 21st", x.sight(1, 0, 0, 0, 511), -1);
        due("sights", x.about(8), 20);
        ThreePlates none = new ThreePlates();
        due("ask without plates", none.ask(0), -1);
        due("sight without plates", none.sight(0, 0, 0, 0, 0), -1);
    }

    // 33, 34, 35, 36, 37
    private static void spent() {
        ThreePlates x = make("size 5;plate a" + " 0".repeat(25) + ";", "");
        due("sight", x.sight(0, 0, 0, 0, (1 << 25) - 1), 0);
        due("reds", x.sight(0, 0, 0, 0, 1 << 25), -1);
        due("worlds", x.worlds(), -2);
        due("world", x.world(0), -1);
        due("known", x.known(true, 0), -2);
        due("known, no part", x.known(true, 2), -1);
        due("ask", x.ask(0), -2);
        due("ask what", x.ask(3), -1);
        due("until is not", orderOf(x, ""), 0);
    }

    // 38, 39, 40
    private static void boxes() {
        ThreePlates x = make("plate a" + ZEROS + "plate b" + ZEROS, LAY);
        due("image 3", x.image(3), -1);
        due("image -1", x.image(-1), -1);
        due("back 0", x.back(0), -1);
        x.warm(0, 0, 6);
        x.stand(1, 0, 1, 2, 9);
        due("seed", x.seed(-9), 1);
        due("image 2", x.image(2), 2);
        int[] seems = {x.seems(0, 0), x.seems(1, 8)};
        x.rest(1000);
        x.stand(1, 6, 7, 8, 3);
        x.round(0);
        x.seed(4);
        x.image(1);
        due("strokes, at least one", x.about(3) > 0, true);
        due("back 2", x.back(2), 2);
        due("height", x.height(0, 0), 0);
        due("warmth", x.seems(0, 0), seems[0]);
        due("feet", x.seems(1, 8), seems[1]);
        due("strokes", x.about(3), 0);
        due("iron", x.about(4), 0);
        due("w", x.about(5), -9);
        due("rounds stay", x.about(2), 1);
        due("back 1", x.back(1), 2);
        due("w", x.about(5), 4);
        due("again", x.back(2), 2);
        due("w", x.about(5), -9);
        due("back 0", x.back(0), -1);
        due("back 3", x.back(3), -1);
        due("back -1", x.back(-1), -1);
    }
}
