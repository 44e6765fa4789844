import java.util.Arrays;

/** The boundaries of a new object, of the tape, and of the shop's text: promises 1 to 4, and 6. */
final class TextBoundaries extends Checks {
    private TextBoundaries() {
    }

    /** A text with a ^ at the place of its fault; the shop before it stays. */
    private static void bad(String marked, int what) {
        ThreePlates x = new ThreePlates();
        due("the shop before", shopOf(x, "plate q" + ZEROS), 1);
        due("shop of " + marked, shopOf(x, marked.replace("^", "")), -1);
        due("fault of " + marked, x.fault(0), what);
        due("place of " + marked, x.fault(1), marked.indexOf('^'));
        due("plates behind " + marked, x.about(0), 1);
    }

    private static ThreePlates good(String text, int plates) {
        ThreePlates x = new ThreePlates();
        due("shop of " + text, shopOf(x, text), plates);
        due("fault of " + text, x.fault(0), 0);
        due("place of " + text, x.fault(1), -1);
        return x;
    }

    @Says({"An empty SHOP.", "`NONE = -1`"})
    static void promise01NewObjectIsEmpty() {
        due("NONE", ThreePlates.NONE, -1);
        ThreePlates x = new ThreePlates();
        dueAbout("of a new object", x, 0, 3, 0, 0, 0, 1, 0, 0, 0);
        due("height", x.height(0, 0), -100000);
        due("seems", x.seems(0, 0), -100000);
        due("off", x.off(0, 0), -1);
        due("hole", x.hole(0, 0), -1);
        due("edge", x.edge(0, true, 0, 0), -1);
        due("lay", x.lay(0, 1, 0, 0, 0, 0), -1);
        due("warm", x.warm(0, 0, 1), false);
        due("stand", x.stand(0, 0, 1, 2, 0), false);
        due("sight", x.sight(0, 0, 0, 0, 0), -1);
        due("flat, since none is not", x.flat(0), 1);
    }

    @Says("An empty SHOP.")
    static void promise01ObjectsShareNothing() {
        ThreePlates x = make(TWO, LAY);
        x.cut(1, 1);
        x.seed(9);
        x.image(0);
        x.feed(0, 0, 0, 0, 0);
        ThreePlates y = new ThreePlates();
        dueAbout("of another object", y, 0, 3, 0, 0, 0, 1, 0, 0, 0);
        due("its boxes", y.back(0), -1);
    }

    @Says("An object is used for at most 512 calls after it has been made")
    static void promise01NewObjectServesFor512Calls() {
        ThreePlates x = new ThreePlates();
        byte[] text = ("size 5;slip 8;red 20;plate a" + " 99 -99 0 1 -7".repeat(5) + ";plate b" + all(0, 25)).getBytes();
        int calls = 0;
        for (int from = 0; from < text.length; from += 20) {
            due("feed", feedBytes(x, Arrays.copyOf(text, from + 20), from), from + 20);
            calls++;
        }
        due("end", x.end(text.length), text.length);
        due("shop", x.shop(), 2);
        byte[] order = "lay a on b turn 1 scrape a deep 9;      ".getBytes();
        due("feed", feedBytes(x, order, 0), 20);
        due("feed", feedBytes(x, order, 20), 40);
        due("order", x.order(), 1);
        calls += 5;
        int until = x.until(50);
        int best = x.best(3, 999);
        for (calls += 2; calls < 511; calls += 3) {
            due("until", x.until(50), until);
            x.seed(1);
            due("best", x.best(3, 999), best);
        }
        due("the last call", x.about(2), 1);
    }

    @Says("NONE, and nothing comes, if there would be more than 1,200.")
    static void promise02FeedBeyond1200Bytes() {
        ThreePlates x = new ThreePlates();
        for (int bytes = 20; bytes <= 1200; bytes += 20) {
            due("feed", x.feed(0x20202020, 0x20202020, 0x20202020, 0x20202020, 0x20202020), bytes);
        }
        due("full", x.feed(0x21212121, 0, 0, 0, 0), -1);
        due("nothing came", x.about(6), 1200);
        due("the last place where twenty do not go", x.end(1181), 1181);
        due("refused", x.feed(0x21212121, 0, 0, 0, 0), -1);
        due("still", x.about(6), 1181);
        due("where they just go", x.end(1180), 1180);
        due("taken", x.feed(0x20202020, 0x20202020, 0x20202020, 0x20202020, 0x20202020), 1200);
        due("nothing of what was refused is there", x.shop(), 0);
    }

    @Says("Twenty bytes come behind those on the TAPE, of each number the highest first: how many there are")
    static void promise02FeedPutsEachByteInItsPlace() {
        for (int place = 0; place < 20; place++) {
            byte[] bytes = new byte[20];
            Arrays.fill(bytes, (byte) 32);
            bytes[place] = (byte) (place % 2 == 0 ? 33 : 200);
            ThreePlates x = new ThreePlates();
            x.feed(0x20202020, 0x20202020, 0x20202020, 0x20202020, 0x20202020);
            due("feed", feedBytes(x, bytes, 0), 40);
            due("shop", x.shop(), -1);
            due("the odd byte", x.fault(0), 1);
            due("its place", x.fault(1), 20 + place);
        }
    }

    @Says("The TAPE has its first n bytes: n; NONE, doing nothing, if it has not so many, or n is below 0.")
    static void promise03EndOutOfTheTape() {
        ThreePlates x = new ThreePlates();
        due("empty, 0", x.end(0), 0);
        due("empty, 1", x.end(1), -1);
        due("empty, -1", x.end(-1), -1);
        x.feed(0x73697a65, 0x20333b21, 0, 0, 0);
        for (int n : new int[] {21, 1200, 1201, Integer.MAX_VALUE, -1, -20, Integer.MIN_VALUE}) {
            due("end " + n, x.end(n), -1);
            due("does nothing", x.about(6), 20);
        }
        due("all", x.end(20), 20);
        due("bytes", x.about(6), 20);
        due("seven", x.end(7), 7);
        due("bytes", x.about(6), 7);
        due("eight, which were cut off", x.end(8), -1);
        due("the first ones stayed", x.shop(), 0);
        due("nothing", x.end(1), -1);
    }

    @Says("The TAPE has its first n bytes: n; NONE, doing nothing, if it has not so many, or n is below 0.")
    static void promise03EndToNothing() {
        ThreePlates x = new ThreePlates();
        x.feed(0x21212121, 0, 0, 0, 0);
        due("end 0", x.end(0), 0);
        due("bytes", x.about(6), 0);
        due("an empty text", x.shop(), 0);
        due("no fault", x.fault(0), 0);
    }

    @Says("The TAPE has its first n bytes: n")
    static void promise03EndCutsThroughAToken() {
        String[] texts = {"red 12;", "red 1a;", "plate ab", "red 1;", "size 3;;"};
        int[] ends = {5, 5, 7, 5, 7};
        int[] faults = {2, 2, 2, 2, 0};
        for (int i = 0; i < texts.length; i++) {
            ThreePlates x = new ThreePlates();
            feedText(x, texts[i]);
            due("end", x.end(ends[i]), ends[i]);
            due("shop of " + texts[i], x.shop(), faults[i] == 0 ? 0 : -1);
            due("fault", x.fault(0), faults[i]);
            due("at the end", x.fault(1), faults[i] == 0 ? -1 : ends[i]);
        }
    }

    @Says("A SHOP is a text of at most 1,200 bytes (empty at first)")
    static void promise04ShopFromEmptyTo1200Bytes() {
        good("", 0);
        String line = "size 5;plate a" + all(-99, 25);
        good(" ".repeat(1200 - line.length()) + line, 1);
        String open = "size 3";
        bad(open + " ".repeat(1200 - open.length()) + "^", 2);
        good("red 1;" + "\n".repeat(1194), 0);
    }

    @Says({"blanks (32, 10) part them or not", "signs ; -"})
    static void promise04ShopOfEachByte() {
        for (int sign = 0; sign < 256; sign++) {
            boolean blank = sign == 32 || sign == 10;
            boolean token = sign >= 'a' && sign <= 'z' || sign >= '0' && sign <= '9' || sign == ';' || sign == '-';
            ThreePlates x = new ThreePlates();
            due("shop of " + sign, shopOf(x, "" + (char) sign), blank ? 0 : -1);
            due("fault of " + sign, x.fault(0), blank ? 0 : token ? 2 : 1);
            due("place of " + sign, x.fault(1), blank ? -1 : 0);
        }
    }

    @Says("words (a .. z, 8 at most)")
    static void promise04ShopWordsOfEightLetters() {
        good("plate azazazaz" + ZEROS, 1);
        bad("plate ^azazazaza" + ZEROS, 1);
        bad("plate a^`" + ZEROS, 1);
        bad("plate a^{" + ZEROS, 1);
        bad("plate ^A" + ZEROS, 1);
        bad("plate a^A" + ZEROS, 1);
        bad("plate ^" + "a".repeat(300) + ZEROS, 1);
    }

    @Says("N (1 to 4 digits)")
    static void promise04ShopNumbersOfFourDigits() {
        ThreePlates x = good("red 0020;slip 0008;size 0004;plate a" + " 0099".repeat(16) + ";", 1);
        due("N", x.about(1), 4);
        due("height", x.height(0, 15), 99);
        bad("red ^00020;", 1);
        bad("red ^0000000000000000000000000000020;", 1);
        bad("red ^9999;", 4);
        bad("red ^10000;", 1);
        bad("plate a 1 -^00001;", 1);
        bad("red 1^/;", 1);
        bad("red 1^:;", 1);
    }

    @Says("each is as long as can be")
    static void promise04ShopTokensAsLongAsCanBe() {
        bad("^platea" + ZEROS, 2);
        bad("^si ze 3;", 2);
        bad("red 1 ^2;", 2);
        good("red 12;", 0);
        bad("plate a 0 0 0 0 0 0 0 00^;", 2);
    }

    @Says("blanks (32, 10) part them or not")
    static void promise04ShopWithAndWithoutBlanks() {
        ThreePlates x = good("size3;plate\na-1-2-3-4-5-6-7-8-9;red20;slip8;", 1);
        due("last height", x.height(0, 8), -9);
        x = good(" size \n 3 ; plate \n a - 1 -\n2 3 4 5 6 7 8 -  9 ; ", 1);
        due("first height", x.height(0, 0), -1);
        due("second height", x.height(0, 1), -2);
        due("last height", x.height(0, 8), -9);
    }

    @Says("no letter directly behind an N")
    static void promise04ShopLetterBehindNumber() {
        bad("size ^3a;", 1);
        bad("red ^1slip 1;", 1);
        bad("red 1 ^slip 1;", 2);
        bad("plate a 1 -^2b", 1);
        good("plate a1 2 3 4 5 6 7 8 9;", 1);
    }

    @Says("size plate red slip lay on turn by scrape deep stand for themselves (in ORDERS, too) and are no NAMES.")
    static void promise04ShopWordsThatAreNoNames() {
        for (String word : KEYWORDS) {
            bad("plate ^" + word + ZEROS, 2);
        }
        for (String word : new String[] {"lay", "on", "turn", "by", "scrape", "deep", "stand", "sizes", "re"}) {
            bad("^" + word + " 3;", 2);
        }
        for (String word : new String[] {"stand", "sizes", "plat", "o", "deeper", "flat", "none"}) {
            good("plate " + word + ZEROS, 1);
        }
    }

    @Says("size: N 3 .. 5, once, ahead of all plates (3 if it is not told ahead of the first one; then it can't be told).")
    static void promise04ShopSizes() {
        for (int size = 3; size <= 5; size++) {
            due("N", good("size " + size + ";plate a" + all(1, size * size), 1).about(1), size);
        }
        for (int size : new int[] {0, 1, 2, 6, 9999}) {
            bad("size ^" + size + ";", 4);
        }
        bad("size ^-3;", 2);
        due("not told", good("plate a" + ZEROS, 1).about(1), 3);
        due("not told, no plate", good("red 1;", 0).about(1), 3);
        bad("size 3;^size 3;", 2);
        bad("size 4;red 1;^size", 2);
        bad("plate a" + ZEROS + "^size 3;", 2);
        due("behind red and slip", good("red 1;slip 1;size 4;", 0).about(1), 4);
    }

    @Says("size: N 3 .. 5, once, ahead of all plates (3 if it is not told ahead of the first one; then it can't be told).")
    static void promise04ShopSizeIsNotThatOfTheShopBefore() {
        ThreePlates x = good("size 5;", 0);
        due("another shop", shopOf(x, "plate a" + ZEROS), 1);
        due("N", x.about(1), 3);
        due("a fault behind its size", shopOf(x, "size 4;plate"), -1);
        due("N stays", x.about(1), 3);
    }

    @Says({"At most 4 PLATES, numbered as told", "(a 5th PLATE, size too late or a second time, red, slip a second time: "
        + "at the line's first word)"})
    static void promise04ShopOfFourPlates() {
        ThreePlates x = good("plate d" + all(1, 9) + "plate c" + all(2, 9) + "plate b" + all(3, 9) + "plate a" + all(4, 9), 4);
        for (int plate = 0; plate < 4; plate++) {
            due("plate " + plate, x.height(plate, 8), plate + 1);
        }
        bad(FOUR + "^plate e" + ZEROS, 2);
        bad(FOUR + "^plate a", 2);
        bad(FOUR + "^plate", 2);
        bad(FOUR + "red 1;^plate", 2);
        good(FOUR + "red 1;slip 1;", 4);
    }

    @Says("of N * N CELLS, row by row (CELL x, y: number N * y + x): heights -99 .. 99.")
    static void promise04ShopHeights() {
        ThreePlates x = good("plate a 99 -99 0 -0 98 -98 1 -1 9;", 1);
        int[] want = {99, -99, 0, 0, 98, -98, 1, -1, 9};
        for (int cell = 0; cell < 9; cell++) {
            due("cell " + cell, x.height(0, cell), want[cell]);
        }
        bad("plate a ^100 0", 4);
        bad("plate a ^-100 0", 4);
        bad("plate a 0 0 0 0 0 0 0 0 ^100;", 4);
        bad("plate a 0 0 0 0 0 0 0 0 ^- 100;", 4);
        bad("plate a ^9999;", 4);
        bad("plate a ^-9999;", 4);
    }

    @Says("of N * N CELLS, row by row (CELL x, y: number N * y + x): heights -99 .. 99.")
    static void promise04ShopTooFewOrTooManyCells() {
        for (int size = 3; size <= 5; size++) {
            int cells = size * size;
            String head = "size " + size + ";plate a";
            bad(head + " 1".repeat(cells - 1) + "^;", 2);
            bad(head + " 1".repeat(cells) + " ^1;", 2);
            bad(head + " 1".repeat(cells) + " ^-1;", 2);
            bad(head + " 1".repeat(cells) + "^", 2);
            good(head + " 1".repeat(cells) + ";", 1);
        }
        bad("plate a^;", 2);
        bad("plate ^;", 2);
        bad("plate ^1" + ZEROS, 2);
        bad("plate a ^b" + ZEROS, 2);
    }

    @Says({"red (0 .. 20; 0 if not told), slip (0 .. 8; 0): each once.", "4 a number that can't be"})
    static void promise04ShopRedAndSlip() {
        good("red 0;slip 0;", 0);
        good("slip 8;red 20;", 0);
        bad("red ^21;", 4);
        bad("slip ^9;", 4);
        bad("red ^-1;", 2);
        bad("slip ^-0;", 2);
        bad("red 1;^red 1;", 2);
        bad("slip 0;plate a" + ZEROS + "^slip 0;", 2);
        bad("red 1;slip 1;^red", 2);
        bad("red^;", 2);
        bad("slip 1 ^1;", 2);
    }

    @Says({"once, ahead of all plates", "each once."})
    static void promise04ShopTellsAgainWhatTheShopBeforeTold() {
        ThreePlates x = good("size 4;red 1;slip 1;", 0);
        due("another shop", shopOf(x, "slip 2;red 2;size 5;"), 0);
        due("N", x.about(1), 5);
        due("a fault behind all three", shopOf(x, "size 3;red 3;slip 3;!"), -1);
        due("another shop", shopOf(x, "red 4;size 4;slip 4;"), 0);
        due("N", x.about(1), 4);
    }

    @Says("red (0 .. 20; 0 if not told), slip (0 .. 8; 0): each once.")
    static void promise04ShopRedAndSlipNotTold() {
        String dip = "plate a 0 0 0 0 -1 0 0 0 0;plate b" + ZEROS;
        ThreePlates x = make("red 1;slip 8;" + dip, LAY);
        due("red 1", x.lay(0, 1, 0, 0, 0, 0), 9);
        due("another shop without both", shopOf(x, dip), 2);
        due("red 0", x.lay(0, 1, 0, 0, 0, 0), 8);
        due("order", orderOf(x, LAY), 1);
        due("round", x.round(0), 8);
        due("without slip nothing is drawn", x.about(5), 1);
        due("nor taken", x.about(4), 8);
    }

    @Says("FAULTS, the first by its place (bytes from 0; the end: the text's length")
    static void promise04ShopFirstFaultByPlace() {
        bad("size ^6;!", 4);
        bad("^a;size 6;", 2);
        bad("red ^!;size 6;", 1);
        bad("plate a" + ZEROS + "plate ^a 100", 3);
        bad("plate a ^100 0 0 0 0 0 0 0 0;plate a", 4);
        bad(" \n ^!", 1);
    }

    @Says("at one place the least: 1 no TOKEN; 2 one that can't stand there")
    static void promise04ShopLeastFaultAtOnePlace() {
        bad("plate a 0 0 0 0 0 0 0 0 0 ^100;", 2);
        bad("size ^12345;", 1);
        bad("^abcdefghi", 1);
        bad("plate a" + ZEROS + "plate ^red" + ZEROS, 2);
    }

    @Says("the end: the text's length")
    static void promise04ShopFaultAtTheEnd() {
        for (String text : new String[] {"size", "size 3", "plate", "plate a", "plate a 1", "plate a 1 -", "red", "slip 2",
            "plate a 1 2 3 4 5 6 7 8 9", "size 3; red ", "slip 2 \n "}) {
            bad(text + "^", 2);
        }
    }

    @Says("of V its place is that of its sign, if it has one")
    static void promise04ShopPlaceOfSign() {
        bad("plate a 1 2 ^-100", 4);
        bad("plate a 1 2 ^-\n\n100", 4);
        bad("plate a 1 2 ^100", 4);
        bad("plate a 1 2 -^;", 2);
        bad("plate a 1 2 -^-1;", 2);
        bad("plate a 1 2 -^a", 2);
        bad("plate a 1 2 -^?", 1);
    }

    @Says("3 a NAME told already")
    static void promise04ShopNameToldAlready() {
        bad("plate a" + ZEROS + "plate ^a" + ZEROS, 3);
        bad(TWO + "plate c" + ZEROS + "plate ^b", 3);
        good("plate a" + ZEROS + "plate aa" + ZEROS + "plate abcdefgh" + ZEROS + "plate bcdefgha" + ZEROS, 4);
        ThreePlates x = good("plate a" + ZEROS, 1);
        due("told by the shop before", shopOf(x, "plate a" + ZEROS), 1);
    }

    @Says("The TAPE (empty then) is the SHOP (BOXES and SIGHTS are none, no WARMTH, no feet, STROKES and IRON 0 then; "
        + "w stays): how many PLATES")
    static void promise04ShopBeginsAnew() {
        ThreePlates x = busy();
        due("another shop", shopOf(x, "plate e 1 2 3 4 5 6 7 8 9;plate a" + ZEROS), 2);
        dueAbout("of another shop", x, 2, 3, 0, 0, 0, 77, 0, 1, 0);
        for (int box = 0; box < 3; box++) {
            due("box", x.back(box), -1);
        }
        for (int cell = 0; cell < 9; cell++) {
            due("height", x.height(0, cell), cell + 1);
            due("seems", x.seems(0, cell), cell + 1);
            due("height of the next", x.height(1, cell), 0);
            due("seems of the next", x.seems(1, cell), 0);
        }
        due("all worlds fit", x.worlds(), 343);
        due("no round", x.round(0), -1);
    }

    @Says("The TAPE (empty then) is the SHOP")
    static void promise04ShopOfNothing() {
        ThreePlates x = busy();
        due("an empty tape", x.shop(), 0);
        dueAbout("of the empty shop", x, 0, 3, 0, 0, 0, 77, 0, 1, 0);
        due("no plate", x.height(0, 0), -100000);
        due("box", x.back(0), -1);
    }

    @Says("NONE: a FAULT (all stays).")
    static void promise04ShopFaultLeavesAll() {
        for (String text : new String[] {"!", "size 6;", "size 4;red 3;slip 2;plate", "plate z" + ZEROS + "plate z"}) {
            ThreePlates x = busy();
            due("shop of " + text, shopOf(x, text), -1);
            dueAbout("behind the fault", x, 2, 3, 1, 9, 9, 77, 0, 1, 1);
            due("height", x.height(0, 0), -1);
            due("warmth", x.seems(0, 0), 8);
            due("sag", x.seems(1, 8), -9);
            // the plane is 8 - 2 x - 7 y: it touches cells 0, 3, 5, 8
            due("red stays 0, slip too", x.round(0), 4);
            due("nothing drawn", x.about(5), 77);
            for (int box = 0; box < 3; box++) {
                due("box " + box, x.back(box), box == 1 ? 2 : -1);
            }
        }
    }

    /** A shop with one of all that another shop forgets, and a cut and a w, which it does not. */
    private static ThreePlates busy() {
        ThreePlates x = make(TWO, LAY);
        due("w", x.seed(77), 1);
        due("cut", x.cut(1, 1), 1);
        due("round", x.round(0), 9);
        due("warm", x.warm(0, 0, 9), true);
        due("stand", x.stand(1, 0, 1, 2, 9), true);
        due("image", x.image(1), 2);
        due("sight", x.sight(0, 0, 0, 0, 1), 0);
        dueAbout("of a busy shop", x, 2, 3, 1, 9, 9, 77, 0, 1, 1);
        return x;
    }

    @Says("Of the latest of both that was not -2 what 0: its FAULT (0), 1: its place (NONE).")
    static void promise06FaultOfTheLatest() {
        ThreePlates x = new ThreePlates();
        due("none yet", x.fault(0), 0);
        due("no place yet", x.fault(1), -1);
        due("shop", shopOf(x, "size 6;"), -1);
        due("fault", x.fault(0), 4);
        due("place", x.fault(1), 5);
        due("order", orderOf(x, "lay a"), -1);
        due("fault of the order", x.fault(0), 5);
        due("place in the order", x.fault(1), 4);
        feedText(x, "!".repeat(501));
        due("too long", x.order(), -2);
        due("fault stays", x.fault(0), 5);
        due("place stays", x.fault(1), 4);
        due("as a shop", x.shop(), -1);
        due("fault", x.fault(0), 1);
        due("place 0", x.fault(1), 0);
        due("order of nothing", x.order(), 0);
        due("no fault", x.fault(0), 0);
        due("no place", x.fault(1), -1);
        due("shop", shopOf(x, "red"), -1);
        due("the end", x.fault(1), 3);
        due("good shop", shopOf(x, "red 1;"), 0);
        due("no fault", x.fault(0), 0);
        due("no place", x.fault(1), -1);
    }

    @Says("NONE for another what.")
    static void promise06FaultOfAnotherWhat() {
        ThreePlates x = new ThreePlates();
        due("shop", shopOf(x, "size 6;"), -1);
        for (int what : new int[] {-1, 2, 3, Integer.MIN_VALUE, Integer.MAX_VALUE}) {
            due("fault " + what, x.fault(what), -1);
        }
        due("fault", x.fault(0), 4);
    }
}
