import java.util.Arrays;

/** What the tests by hand share: texts that are put on the tape, and answers held against those that are due. */
abstract class Checks {
    static final String ZEROS = " 0 0 0 0 0 0 0 0 0;";
    static final String TWO = "plate a" + ZEROS + "plate b" + ZEROS;
    static final String FOUR = TWO + "plate c" + ZEROS + "plate d" + ZEROS;
    static final String LAY = "lay b on a turn 0 scrape a deep 1;";
    static final String[] KEYWORDS = {"size", "plate", "red", "slip", "lay", "on", "turn", "by", "scrape", "deep"};
    private static int checks = 0;
    private static int wrong = 0;
    private static String where = "";

    /** The test whose checks come next. */
    static void enter(String test) {
        where = test + ": ";
    }

    static void due(String call, long got, long want) {
        checks++;
        if (got != want) {
            wrong++;
            System.out.println(where + call + " answered " + got + ", due is " + want);
        }
    }

    static void due(String call, boolean got, boolean want) {
        due(call, got ? 1 : 0, want ? 1 : 0);
    }

    /** Prints how many checks there were, and ends the program if one was wrong. */
    static void finish() {
        System.out.println(checks + " checks, " + wrong + " wrong");
        if (wrong != 0) {
            System.exit(1);
        }
    }

    static int feedBytes(ThreePlates x, byte[] twenty, int from) {
        int[] five = new int[5];
        for (int k = 0; k < 20; k++) {
            five[k / 4] = five[k / 4] << 8 | twenty[from + k] & 255;
        }
        return x.feed(five[0], five[1], five[2], five[3], five[4]);
    }

    /** Signs that would be faults stand behind the text, so that end must cut them off. */
    static void feedText(ThreePlates x, String text) {
        int whole = (text.length() + 19) / 20 * 20;
        byte[] bytes = new byte[whole];
        Arrays.fill(bytes, (byte) '!');
        for (int i = 0; i < text.length(); i++) {
            bytes[i] = (byte) text.charAt(i);
        }
        for (int i = 0; i < whole; i += 20) {
            due("feed", feedBytes(x, bytes, i), i + 20);
        }
        due("end", x.end(text.length()), text.length());
    }

    static int shopOf(ThreePlates x, String text) {
        feedText(x, text);
        return x.shop();
    }

    static int orderOf(ThreePlates x, String text) {
        feedText(x, text);
        return x.order();
    }

    static ThreePlates make(String shop, String order) {
        ThreePlates x = new ThreePlates();
        due(shop, shopOf(x, shop) >= 0, true);
        due(order, orderOf(x, order) >= 0, true);
        return x;
    }

    /** Heights of a plate of so many cells that are all alike. */
    static String all(int height, int cells) {
        return (" " + height).repeat(cells) + ";";
    }

    /** A shop of so many plates of that size, all flat. */
    static String plates(int size, int count) {
        StringBuilder text = new StringBuilder("size " + size + ";");
        for (int plate = 0; plate < count; plate++) {
            text.append("plate ").append("abcd".charAt(plate)).append(all(0, size * size));
        }
        return text.toString();
    }

    /** All that can be asked about at once, held against what it is due to be. */
    static void dueAbout(String when, ThreePlates x, int... want) {
        for (int what = 0; what < want.length; what++) {
            due("about " + what + " " + when, x.about(what), want[what]);
        }
    }
}
