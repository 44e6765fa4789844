/** The boundaries of w, of images, and of what can be asked about: promises 38 to 41. */
final class StateBoundaries extends Checks {
    private StateBoundaries() {
    }

    @Says("w is so much: what it was.")
    static void promise38SeedOfAnyNumber() {
        ThreePlates x = new ThreePlates();
        int was = 1;
        for (int w : new int[] {0, -1, Integer.MIN_VALUE, Integer.MAX_VALUE, 1, 1}) {
            due("what it was", x.seed(w), was);
            due("what it is", x.about(5), w);
            was = w;
        }
    }

    @Says("w stays")
    static void promise38SeedStaysWithAnotherShop() {
        ThreePlates x = new ThreePlates();
        x.seed(-7);
        due("shop", shopOf(x, TWO), 2);
        due("w", x.about(5), -7);
        due("what it was", x.seed(3), -7);
    }

    @Says("are kept in a BOX 0 .. 2: how many PLATES; NONE if there is none such.")
    static void promise39ImageRefused() {
        ThreePlates x = make(FOUR, "");
        for (int box : new int[] {-1, 3, Integer.MIN_VALUE, Integer.MAX_VALUE}) {
            due("image " + box, x.image(box), -1);
        }
        for (int box = 0; box < 3; box++) {
            due("nothing was kept", x.back(box), -1);
            due("image " + box, x.image(box), 4);
        }
        due("without plates", new ThreePlates().image(2), 0);
    }

    @Says("All heights, WARMTHS, feet, STROKES, IRON and w are kept in a BOX 0 .. 2")
    static void promise39ImageOverAnother() {
        ThreePlates x = make("slip 8;" + TWO, LAY);
        due("image", x.image(1), 2);
        x.round(0);
        x.warm(0, 0, 5);
        x.stand(1, 0, 1, 2, 9);
        int w = x.about(5);
        int iron = x.about(4);
        int height = x.height(0, 1);
        due("over the one before", x.image(1), 2);
        x.rest(5);
        x.round(0);
        x.stand(1, 6, 7, 8, 9);
        due("back", x.back(1), 2);
        dueAbout("of the later image", x, 2, 3, 1, 9, iron, w);
        due("height", x.height(0, 1), height);
        due("warmth", x.seems(0, 0), x.height(0, 0) + 5);
        due("feet", x.seems(1, 8), -9);
        due("feet", x.seems(1, 0), 0);
    }

    @Says("All is as it was kept: how many PLATES; NONE, doing nothing, if nothing was.")
    static void promise40BackRefused() {
        ThreePlates x = make("slip 8;" + TWO, LAY);
        due("image", x.image(1), 2);
        x.round(0);
        int w = x.about(5);
        int iron = x.about(4);
        for (int box : new int[] {0, 2, -1, 3, Integer.MIN_VALUE, Integer.MAX_VALUE}) {
            due("back " + box, x.back(box), -1);
        }
        dueAbout("nothing done", x, 2, 3, 1, 9, iron, w);
        due("back 1", x.back(1), 2);
        dueAbout("as it was", x, 2, 3, 1, 0, 0, 1);
        due("without plates", new ThreePlates().back(0), -1);
    }

    @Says("BOXES and SIGHTS are none")
    static void promise40BackBehindAnotherShop() {
        ThreePlates x = make(TWO, "");
        for (int box = 0; box < 3; box++) {
            x.image(box);
        }
        due("a shop with a fault", shopOf(x, "!"), -1);
        for (int box = 0; box < 3; box++) {
            due("they stay", x.back(box), 2);
        }
        due("the same shop again", shopOf(x, TWO), 2);
        for (int box = 0; box < 3; box++) {
            due("none", x.back(box), -1);
        }
    }

    @Says("All is as it was kept")
    static void promise40BackAgainAndAgain() {
        ThreePlates x = make(TWO, LAY);
        x.warm(0, 4, 20);
        x.image(0);
        for (int i = 0; i < 5; i++) {
            x.round(0);
            x.rest(20);
            x.stand(0, 0, 1, 2, 9);
            x.seed(99);
            due("back", x.back(0), 2);
            dueAbout("as it was", x, 2, 3, 1, 0, 0, 1);
            due("height", x.height(0, 4), 0);
            due("seems", x.seems(0, 4), 20);
            due("no feet", x.seems(0, 8), 0);
        }
    }

    @Says("All heights, WARMTHS, feet, STROKES, IRON and w are kept")
    static void promise40BackLeavesWhatIsNotKept() {
        ThreePlates x = make(TWO, LAY);
        x.image(0);
        due("order", orderOf(x, LAY + LAY), 2);
        due("cut", x.cut(3, 3), 1);
        due("sight", x.sight(0, 0, 0, 0, 1), 0);
        x.feed(0, 0, 0, 0, 0);
        due("back", x.back(0), 2);
        dueAbout("not kept, so not changed", x, 2, 3, 2, 0, 0, 1, 20, 1, 1);
    }

    @Says("NONE for another what (w may be that, too).")
    static void promise41AboutRefused() {
        ThreePlates x = make(TWO, LAY);
        for (int what : new int[] {-1, 9, 10, Integer.MIN_VALUE, Integer.MAX_VALUE}) {
            due("about " + what, x.about(what), -1);
        }
        x.seed(-1);
        due("w is -1", x.about(5), -1);
    }

    @Says("What 0: PLATES, 1: N, 2: ROUNDS, 3: STROKES, 4: IRON, 5: w, 6: bytes on the TAPE, 7: cuts, 8: SIGHTS.")
    static void promise41AboutFromNoneToTheMost() {
        dueAbout("of a new object", new ThreePlates(), 0, 3, 0, 0, 0, 1, 0, 0, 0);
        ThreePlates x = make(plates(5, 4), LAY.repeat(10));
        for (int i = 0; i < 40; i++) {
            x.cut(1, 1);
        }
        for (int i = 0; i < 20; i++) {
            x.sight(0, 0, 0, 0, 0);
        }
        due("run", x.run(300), 7500);
        for (int i = 0; i < 60; i++) {
            x.feed(0, 0, 0, 0, 0);
        }
        dueAbout("of a full one", x, 4, 5, 10, 7500, 7500, 1, 1200, 40, 20);
    }
}
