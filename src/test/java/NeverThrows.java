import java.lang.reflect.InvocationTargetException;
import java.lang.reflect.Method;
import java.lang.reflect.Modifier;
import java.util.ArrayList;
import java.util.Comparator;
import java.util.List;
import java.util.Random;

/** Any arguments in any state: no call may throw. */
public final class NeverThrows {
    private static final String[] SHOPS = {
        "", "size 5;", "size 4;red 20;slip 8;plate a" + " 99".repeat(16) + ";plate b" + " -99".repeat(16) + ";",
        "plate a 1 2 3 4 5 6 7 8 9;plate b 9 -8 7 6 5 4 -3 2 1;plate c 0 0 0 0 0 0 0 0 0;slip 3;red 2;",
        "size 5;plate a" + " 7 -7 0 3 1".repeat(5) + ";plate b" + " 1 2 3 4 -5".repeat(5) + ";slip 1;"};
    private static final String[] ORDERS = {
        "", "lay b on a turn 0 scrape a deep 9;", "lay a on b turn 3 by -1 1 scrape b deep 5;lay b on a turn 2 scrape b deep 1;"};
    private static final int[] ODD = {Integer.MIN_VALUE, Integer.MAX_VALUE, -1, 0, 1, 2, 3, 4, 5, 8, 9, 15, 16, 24, 25, 26, 40,
        99, 100, 300, 301, 500, 511, 512, 999, 1000, 1001, 1200, 1201, 65535, 65536, 1 << 25, -2, -9999, 9999, 10000};

    public static void main(String[] args) throws IllegalAccessException {
        List<Method> methods = new ArrayList<>();
        for (Method m : ThreePlates.class.getDeclaredMethods()) {
            if (Modifier.isPublic(m.getModifiers())) {
                methods.add(m);
            }
        }
        methods.sort(Comparator.comparing(Method::getName));
        Random random = new Random(41);
        for (int run = 0; run < 1500; run++) {
            ThreePlates x = new ThreePlates();
            for (int call = 0; call < 60; call++) {
                if (random.nextInt(15) == 0) {
                    feed(x, SHOPS[random.nextInt(SHOPS.length)]);
                    x.shop();
                    feed(x, ORDERS[random.nextInt(ORDERS.length)]);
                    x.order();
                }
                Method m = methods.get(random.nextInt(methods.size()));
                if (!callOne(x, m, random)) {
                    System.exit(1);
                }
            }
        }
        System.out.println("no call threw");
    }

    private static boolean callOne(ThreePlates x, Method m, Random random) throws IllegalAccessException {
        Object[] given = new Object[m.getParameterCount()];
        boolean small = random.nextInt(3) > 0;
        for (int i = 0; i < given.length; i++) {
            int odd = small ? random.nextInt(4) : ODD[random.nextInt(ODD.length)];
            given[i] = m.getParameterTypes()[i] == boolean.class ? (Object) random.nextBoolean() : (Object) odd;
        }
        try {
            m.invoke(x, given);
            return true;
        } catch (InvocationTargetException e) {
            System.out.println(m + " with " + List.of(given) + " threw " + e.getCause());
            return false;
        }
    }

    private static void feed(ThreePlates x, String text) {
        x.end(0);
        for (int i = 0; i < text.length(); i += 20) {
            int[] five = new int[5];
            for (int k = 0; k < 20; k++) {
                five[k / 4] = five[k / 4] << 8 | (i + k < text.length() ? text.charAt(i + k) : 32);
            }
            x.feed(five[0], five[1], five[2], five[3], five[4]);
        }
    }
}
