import java.io.IOException;
import java.lang.reflect.Method;
import java.lang.reflect.Modifier;
import java.nio.file.Files;
import java.nio.file.Path;
import java.util.List;
import java.util.TreeMap;
import java.util.TreeSet;
import java.util.regex.Matcher;
import java.util.regex.Pattern;
import java.util.stream.Stream;

/** README.md tells the truth: its example answers as it says, and it names every call and every test. */
public final class ReadmeTest extends Checks {
    private static final Pattern CODE = Pattern.compile("(?s)```java\n(.*?)```");
    private static final Pattern TEXT = Pattern.compile("feedText\\(x, \"(.*)\"\\);");
    private static final Pattern ASKED = Pattern.compile("x\\.(\\w+)\\((.*?)\\); +// (-?\\d+)(:.*)?");
    private static final Pattern FACE = Pattern.compile("public (?:int|long|boolean) (\\w+)\\((.*?)\\);");

    public static void main(String[] args) throws IOException, ReflectiveOperationException {
        enter("README.md");
        String page = Files.readString(Path.of("README.md"));
        List<String> blocks = CODE.matcher(page).results().map(found -> found.group(1)).toList();
        due("blocks of code", blocks.size(), 2);
        due("feedText as it is tested here", squeezed(source()).contains(squeezed(blocks.get(0))), true);
        example(blocks.get(1));
        calls(page);
        tests(page);
        finish();
    }

    /** As README.md shows it; below it is used for the example in place of that of Checks. */
    static void feedText(ThreePlates x, String text) {
        for (int from = 0; from < text.length(); from += 20) {
            int[] five = new int[5];
            for (int i = 0; i < 20; i++) {
                int sign = from + i < text.length() ? text.charAt(from + i) : ' ';
                five[i / 4] = five[i / 4] << 8 | sign;
            }
            x.feed(five[0], five[1], five[2], five[3], five[4]);
        }
        x.end(text.length());
    }

    private static void example(String block) throws ReflectiveOperationException {
        ThreePlates x = new ThreePlates();
        int asked = 0;
        for (String line : block.split("\n")) {
            Matcher text = TEXT.matcher(line);
            Matcher call = ASKED.matcher(line);
            if (text.matches()) {
                feedText(x, text.group(1));
            } else if (call.matches()) {
                asked++;
                due(line, answer(x, call.group(1), call.group(2)), Long.parseLong(call.group(3)));
            } else {
                due("the line " + line, line.equals("ThreePlates x = new ThreePlates();"), true);
            }
        }
        due("calls in the example", asked > 10, true);
    }

    private static long answer(ThreePlates x, String name, String given) throws ReflectiveOperationException {
        Object[] numbers = Stream.of(given.split(", ")).filter(one -> !one.isEmpty()).map(Integer::valueOf).toArray();
        for (Method method : ThreePlates.class.getDeclaredMethods()) {
            if (method.getName().equals(name) && method.getParameterCount() == numbers.length) {
                return ((Number) method.invoke(x, numbers)).longValue();
            }
        }
        due("the call " + name, false, true);
        return 0;
    }

    /** Each call of the document's face stands on the page with the names of its arguments. */
    private static void calls(String page) throws IOException {
        TreeMap<String, String> face = new TreeMap<>();
        Matcher one = FACE.matcher(Files.readString(Path.of("../shared/DOC.md")));
        while (one.find()) {
            face.put(one.group(1), one.group(2).replaceAll("\\b(int|long|boolean) ", ""));
        }
        TreeSet<String> there = new TreeSet<>();
        for (Method method : ThreePlates.class.getDeclaredMethods()) {
            if (Modifier.isPublic(method.getModifiers())) {
                there.add(method.getName());
            }
        }
        due("the document's face is that of the class", face.keySet().equals(there), true);
        for (String name : face.keySet()) {
            String call = "`" + name + "(" + face.get(name) + ")`";
            due("README.md has " + call, page.contains(call), true);
        }
    }

    private static void tests(String page) throws IOException {
        try (Stream<Path> files = Files.list(Path.of("src/test/java"))) {
            for (Path file : files.sorted().toList()) {
                if (Files.readString(file).contains("static void main(")) {
                    String name = file.getFileName().toString().replace(".java", "");
                    due("README.md tells of " + name, page.contains("- `" + name + "`:"), true);
                }
            }
        }
    }

    private static String source() throws IOException {
        return Files.readString(Path.of("src/test/java/ReadmeTest.java"));
    }

    private static String squeezed(String text) {
        return text.replaceAll("\\s+", " ").trim();
    }
}
