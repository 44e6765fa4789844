import java.io.IOException;
import java.lang.reflect.Constructor;
import java.lang.reflect.Field;
import java.lang.reflect.Method;
import java.lang.reflect.Modifier;
import java.nio.file.Files;
import java.nio.file.Path;
import java.util.ArrayList;
import java.util.HashMap;
import java.util.HashSet;
import java.util.List;
import java.util.Map;
import java.util.Set;
import java.util.TreeSet;
import java.util.regex.Matcher;
import java.util.regex.Pattern;

/** The rules of LANGUAGE.md that can be looked at from outside. */
public final class RulesTest {
    private static final String FACE = """
        int feed(int,int,int,int,int)
        int end(int)
        int shop()
        int order()
        int fault(int)
        int height(int,int)
        int seems(int,int)
        int lay(int,int,int,int,int,int)
        int gap(int,int,int,int,int,int,int)
        long air(int,int,int,int,int,int)
        int lift(int,int,int,int,int,int)
        int round(int)
        int run(int)
        int off(int,int)
        int flat(int)
        boolean warm(int,int,int)
        boolean rest(int)
        int hidden()
        int hides()
        int until(int)
        int best(int,int)
        int bestRound(int,int,int)
        long hole(int,int)
        int edge(int,boolean,int,int)
        int square(int,int,int,int,int)
        int cut(int,int)
        int clear()
        int fits()
        int tight(int)
        boolean stand(int,int,int,int,int)
        int deepest(int,int)
        int sight(int,int,int,int,int)
        int worlds()
        int world(int)
        int known(boolean,int)
        int ask(int)
        int seed(int)
        int image(int)
        int back(int)
        int about(int)
        """;
    private static final int MOST_LINES = 60;
    private static final int MOST_PARAMETERS = 7;
    private static final int MOST_CLASSES = 12;
    private static final int MOST_FIELDS = 20;
    private static final int MOST_DEPTH = 8;
    private static int wrong = 0;

    private static void hold(boolean good, String rule) {
        if (!good) {
            wrong++;
            System.out.println("broken: " + rule);
        }
    }

    public static void main(String[] args) throws IOException {
        String source = Files.readString(Path.of("src/main/java/ThreePlates.java"));
        String code = source.replaceAll("(?s)/\\*.*?\\*/", "").replaceAll("//[^\n]*", "");
        face();
        classes();
        words(code);
        methods(code);
        System.out.println(wrong == 0 ? "the rules hold" : wrong + " rules are broken");
        if (wrong != 0) {
            System.exit(1);
        }
    }

    private static void face() {
        Set<String> open = new TreeSet<>();
        Set<String> names = new HashSet<>();
        for (Method m : ThreePlates.class.getDeclaredMethods()) {
            if (!Modifier.isPrivate(m.getModifiers()) && !m.isSynthetic()) {
                hold(Modifier.isPublic(m.getModifiers()), "1: " + m);
                names.add(m.getName());
                StringBuilder types = new StringBuilder();
                for (Class<?> type : m.getParameterTypes()) {
                    types.append(types.length() == 0 ? "" : ",").append(type.getName());
                }
                open.add(m.getReturnType().getName() + " " + m.getName() + "(" + types + ")");
            }
        }
        Set<String> want = new TreeSet<>();
        FACE.lines().forEach(want::add);
        hold(open.equals(want), "1: the face is " + open);
        for (Class<?> c : allClasses()) {
            for (Method m : c.getDeclaredMethods()) {
                boolean own = c == ThreePlates.class && Modifier.isPublic(m.getModifiers());
                hold(own || !names.contains(m.getName()), "1: a name of the face again: " + m);
            }
        }
        for (Field f : ThreePlates.class.getDeclaredFields()) {
            boolean isNone = f.getName().equals("NONE") && Modifier.isPublic(f.getModifiers());
            hold(isNone || Modifier.isPrivate(f.getModifiers()), "1: " + f);
        }
        Constructor<?>[] makers = ThreePlates.class.getDeclaredConstructors();
        hold(makers.length == 1 && Modifier.isPublic(makers[0].getModifiers()), "1: one public constructor");
        hold(Modifier.isFinal(ThreePlates.class.getModifiers()), "1: final");
    }

    private static List<Class<?>> allClasses() {
        List<Class<?>> all = new ArrayList<>();
        all.add(ThreePlates.class);
        all.addAll(List.of(ThreePlates.class.getDeclaredClasses()));
        return all;
    }

    private static void classes() {
        hold(allClasses().size() <= MOST_CLASSES, "11: classes: " + allClasses().size());
        for (Class<?> c : allClasses()) {
            hold(c == ThreePlates.class || Modifier.isStatic(c.getModifiers()), "2: " + c + " is not static");
            int fields = 0;
            for (Field f : c.getDeclaredFields()) {
                if (!Modifier.isStatic(f.getModifiers())) {
                    fields++;
                    continue;
                }
                Class<?> t = f.getType();
                boolean plain = t == int.class || t == long.class || t == boolean.class || t == char.class;
                hold(Modifier.isFinal(f.getModifiers()) && plain, "5: " + f);
            }
            hold(fields <= MOST_FIELDS, "11: " + c + " has " + fields + " fields");
            for (Method m : c.getDeclaredMethods()) {
                hold(m.getParameterCount() <= MOST_PARAMETERS, "11: " + m);
            }
        }
    }

    private static void words(String code) {
        String[] none = {"throw", "throws", "try", "catch", "synchronized", "assert", "->", "::", "package", "Exact",
            "double", "float", "protected", "System.out", "static {", "Random", "nanoTime", "@"};
        for (String word : none) {
            boolean isWord = Character.isLetter(word.charAt(0)) && word.matches("\\w+");
            Pattern pattern = Pattern.compile(isWord ? "\\b" + word + "\\b" : Pattern.quote(word));
            hold(!pattern.matcher(code).find(), "4, 5, 6: " + word);
        }
        Matcher imports = Pattern.compile("import ([^;]*);").matcher(code);
        while (imports.find()) {
            hold(imports.group(1).equals("java.util.Arrays"), "4: import " + imports.group(1));
        }
        for (char c : code.toCharArray()) {
            hold(c < 128, "4: a sign above 127");
        }
    }

    /** Each method's lines, that none makes objects but constructors, and how deep calls go, by the methods' names. */
    private static void methods(String code) {
        Pattern head = Pattern.compile("(?m)^( +)(?:private |public |static |final )*(?:[\\w\\[\\]]+ )?(\\w+)\\([^;{}]*\\) \\{$");
        Matcher m = head.matcher(code);
        Map<String, Set<String>> calls = new HashMap<>();
        Map<String, String> bodies = new HashMap<>();
        while (m.find()) {
            String name = m.group(2);
            if (Set.of("if", "for", "while", "switch").contains(name)) {
                continue;
            }
            int end = code.indexOf("\n" + m.group(1) + "}\n", m.start());
            String body = code.substring(m.end(), end);
            hold(body.lines().count() <= MOST_LINES, "11: " + name + " is too long");
            boolean makes = Pattern.compile("\\bnew\\b").matcher(body).find();
            hold(!makes || Character.isUpperCase(name.charAt(0)), "12: " + name + " makes objects");
            bodies.merge(name, body, String::concat);
        }
        for (String name : bodies.keySet()) {
            Set<String> called = new HashSet<>();
            Matcher c = Pattern.compile("(?:(Math|Integer|Arrays|System)\\.)?\\b(\\w+)\\(").matcher(bodies.get(name));
            while (c.find()) {
                if (c.group(1) == null && bodies.containsKey(c.group(2)) && !c.group(2).equals(name)) {
                    called.add(c.group(2));
                }
            }
            calls.put(name, called);
        }
        Map<String, Integer> deep = new HashMap<>();
        for (String name : calls.keySet()) {
            hold(depth(name, calls, deep, 0) <= MOST_DEPTH, "11: " + name + " goes " + deep.get(name) + " deep");
        }
        System.out.println(bodies.size() + " names of methods, the deepest call " + deep.values().stream().max(Integer::compare).get());
    }

    private static int depth(String name, Map<String, Set<String>> calls, Map<String, Integer> deep, int open) {
        if (deep.containsKey(name)) {
            return deep.get(name);
        }
        if (open > 40) {
            hold(false, "8: recursion through " + name);
            return 40;
        }
        int most = 0;
        for (String called : calls.get(name)) {
            most = Math.max(most, depth(called, calls, deep, open + 1));
        }
        deep.put(name, most + 1);
        return most + 1;
    }
}
