import java.io.IOException;
import java.lang.reflect.InvocationTargetException;
import java.lang.reflect.Method;
import java.nio.file.Files;
import java.nio.file.Path;
import java.util.Arrays;
import java.util.Comparator;
import java.util.regex.Matcher;
import java.util.regex.Pattern;

/**
 * Each sentence of the document that names a boundary (too small, too large, empty, full, a wrap-around, a refused
 * call) has a test of its own, named after its promise; its words stand above it and must stand in the document.
 */
public final class BoundariesTest extends Checks {
    private static final int PROMISES = 41;
    private static final Pattern NAME = Pattern.compile("promise(\\d\\d)[A-Z]\\w*");
    private static final Class<?>[] PARTS = {TextBoundaries.class, OrderBoundaries.class, LayBoundaries.class,
        RoundBoundaries.class, PlateBoundaries.class, TrialBoundaries.class, HandBoundaries.class,
        WorldBoundaries.class, StateBoundaries.class};

    public static void main(String[] args) throws IOException, ReflectiveOperationException {
        String document = inOneLine(Files.readString(Path.of("../shared/DOC.md")));
        boolean[] said = new boolean[document.length()];
        int[] tests = new int[PROMISES + 1];
        for (Class<?> part : PARTS) {
            for (Method test : testsOf(part)) {
                Matcher name = NAME.matcher(test.getName());
                enter(part.getName() + "." + test.getName());
                due("a name after a promise", name.matches(), true);
                tests[Integer.parseInt(name.group(1))]++;
                for (String words : test.getAnnotation(Says.class).value()) {
                    due("in the document: " + words, document.contains(words), true);
                    mark(document, words, said);
                }
                call(test);
            }
        }
        enter("BoundariesTest");
        for (int promise = 1; promise <= PROMISES; promise++) {
            due("promise " + promise + " has a test", tests[promise] > 0, true);
        }
        if (args.length > 0) {
            System.out.println("What no test quotes:\n" + unsaid(document, said));
        }
        System.out.println(Arrays.stream(tests).sum() + " boundaries");
        finish();
    }

    private static Method[] testsOf(Class<?> part) {
        return Arrays.stream(part.getDeclaredMethods())
            .filter(method -> method.isAnnotationPresent(Says.class))
            .sorted(Comparator.comparing(Method::getName))
            .toArray(Method[]::new);
    }

    private static void call(Method test) throws IllegalAccessException {
        try {
            test.invoke(null);
        } catch (InvocationTargetException e) {
            due("threw " + e.getCause() + ", which", true, false);
        }
    }

    private static void mark(String document, String words, boolean[] said) {
        for (int at = document.indexOf(words); at >= 0; at = document.indexOf(words, at + 1)) {
            Arrays.fill(said, at, at + words.length(), true);
        }
    }

    private static String unsaid(String document, boolean[] said) {
        StringBuilder rest = new StringBuilder();
        for (int i = 0; i < said.length; i++) {
            rest.append(said[i] ? '_' : document.charAt(i));
        }
        return rest.toString().replaceAll("_+", " ____ ");
    }

    private static String inOneLine(String text) {
        return text.replaceAll("\\s+", " ");
    }
}
