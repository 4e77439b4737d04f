import java.io.IOException;
import java.lang.reflect.Constructor;
import java.lang.reflect.Field;
import java.lang.reflect.Member;
import java.lang.reflect.Method;
import java.lang.reflect.Modifier;
import java.nio.file.Files;
import java.nio.file.Path;
import java.util.ArrayList;
import java.util.Arrays;
import java.util.Collections;
import java.util.List;
import java.util.Map;
import java.util.Set;
import java.util.TreeMap;
import java.util.TreeSet;
import java.util.regex.Matcher;
import java.util.regex.Pattern;

/** The class has the document's face and keeps to the rules of LANGUAGE.md that a program can look after. */
public final class FaceTest {
    private static final Path SOURCE = Path.of("src/main/java/ParserForge.java");
    private static final Set<String> FACE = Set.of(
        "int OK", "int RULES", "int MANY", "int UNBUILT", "int STUCK", "int ERROR", "int ENDLESS",
        "ParserForge()", "boolean rule(int, int)", "int clear(int)", "boolean skip(int, boolean)",
        "int produce(int, int, int, int)", "boolean retract()", "boolean rank(int, int, int)",
        "boolean action(int, int, int)", "int build()", "int built(int)", "boolean put(int)", "int wipe()",
        "int tokens()", "int token(int, int)", "int parse()", "int value()", "int place()");
    private static final Set<Class<?>> TYPES = Set.of(int.class, long.class, short.class, byte.class, char.class,
        boolean.class, int[].class, long[].class, short[].class, byte[].class, char[].class, boolean[].class,
        void.class);

    private static int wrong = 0;

    public static void main(String[] args) throws IOException {
        face();
        members();
        words(Files.readString(SOURCE));
        System.exit(wrong == 0 ? 0 : 1);
    }

    private static void mustHold(boolean holds, String what) {
        if (!holds) {
            wrong++;
            System.out.println("does not hold: " + what);
        }
    }

    private static String parameters(Class<?>[] types) {
        List<String> names = new ArrayList<>();
        for (Class<?> type : types) {
            names.add(type.getSimpleName());
        }
        return "(" + String.join(", ", names) + ")";
    }

    private static void face() {
        Set<String> open = new TreeSet<>();
        for (Field f : ParserForge.class.getDeclaredFields()) {
            addIfOpen(open, f, f.getType().getSimpleName() + " " + f.getName());
        }
        for (Method m : ParserForge.class.getDeclaredMethods()) {
            String name = m.getReturnType().getSimpleName() + " " + m.getName();
            addIfOpen(open, m, name + parameters(m.getParameterTypes()));
        }
        for (Constructor<?> c : ParserForge.class.getDeclaredConstructors()) {
            addIfOpen(open, c, c.getName() + parameters(c.getParameterTypes()));
        }
        mustHold(open.equals(FACE), "the face is that of the document, not " + open);
        int kind = ParserForge.class.getModifiers();
        mustHold(Modifier.isPublic(kind) && Modifier.isFinal(kind), "the class is public and final");
    }

    private static void addIfOpen(Set<String> open, Member member, String name) {
        if (!Modifier.isPrivate(member.getModifiers())) {
            mustHold(Modifier.isPublic(member.getModifiers()), name + " is public or private");
            open.add(name);
        }
    }

    private static void members() {
        int fields = 0;
        for (Field f : ParserForge.class.getDeclaredFields()) {
            boolean fixed = Modifier.isStatic(f.getModifiers());
            fields += fixed ? 0 : 1;
            mustHold(TYPES.contains(f.getType()), f.getName() + " has an allowed type");
            mustHold(!fixed || Modifier.isFinal(f.getModifiers()) && !f.getType().isArray(), f.getName() + " is fixed");
        }
        mustHold(fields <= 40, "at most forty fields, not " + fields);
        Set<String> names = new TreeSet<>();
        for (Method m : ParserForge.class.getDeclaredMethods()) {
            mustHold(names.add(m.getName()), "one method named " + m.getName());
            mustHold(m.getParameterCount() <= 7, m.getName() + " takes at most seven parameters");
            mustHold(TYPES.containsAll(Arrays.asList(m.getParameterTypes())), m.getName() + " takes allowed types");
            boolean fits = TYPES.contains(m.getReturnType()) && !m.getReturnType().isArray();
            mustHold(fits, m.getName() + " answers an allowed type");
        }
        mustHold(ParserForge.class.getDeclaredClasses().length == 0, "no nested class");
    }

    private static void words(String source) {
        String code = source.replaceAll("(?s)/\\*.*?\\*/", "").replaceAll("//[^\n]*", "");
        for (String word : List.of("import", "package", "throw", "throws", "try", "catch", "synchronized", "assert",
            "instanceof", "null", "float", "double", "String", "Math", "Integer", "System", "Arrays", "this", "while",
            "->", "::", "\"", "'", "@")) {
            String edge = Character.isLetter(word.charAt(0)) ? "\\b" : "";
            mustHold(!Pattern.compile(edge + Pattern.quote(word) + edge).matcher(code).find(), "no " + word);
        }
        Matcher made = Pattern.compile("(?m)^(.*)\\bnew\\b(.*)$").matcher(code);
        while (made.find()) {
            boolean inField = made.group(1).matches("    private final \\w+\\[\\] \\w+ = ");
            mustHold(inField && made.group(2).matches(" \\w+\\[[A-Z_]+\\];"), "an array of a field: " + made.group());
        }
        Map<String, String> bodies = bodies(code);
        bodies.forEach((name, body) -> mustHold(body.lines().count() <= 60, name + " is a short method"));
        calls(bodies);
        loops(code);
    }

    private static Map<String, String> bodies(String code) {
        Map<String, String> bodies = new TreeMap<>();
        String head = "\n    (?:public|private) [^;={]*?(\\w+)\\([^;={]*\\) \\{\n";
        Matcher method = Pattern.compile("(?s)" + head + "(.*?)\n    \\}\n").matcher(code);
        while (method.find()) {
            bodies.put(method.group(1), method.group(2));
        }
        Set<String> names = new TreeSet<>(Set.of("ParserForge"));
        for (Method m : ParserForge.class.getDeclaredMethods()) {
            names.add(m.getName());
        }
        mustHold(bodies.keySet().equals(names), "all methods are found, not " + bodies.keySet());
        return bodies;
    }

    private static void calls(Map<String, String> bodies) {
        Map<String, Set<String>> called = new TreeMap<>();
        bodies.forEach((name, body) -> called.put(name, callsIn(name, body, bodies.keySet())));
        // Each round takes away what calls nothing that is left: the ways through the rest are longer than the rounds.
        Set<String> left = new TreeSet<>(bodies.keySet());
        for (int round = 0; round < 6; round++) {
            Set<String> before = Set.copyOf(left);
            left.removeIf(name -> Collections.disjoint(called.get(name), before));
        }
        mustHold(left.isEmpty(), "calls go at most six deep and never in a ring: " + left);
    }

    private static Set<String> callsIn(String name, String body, Set<String> methods) {
        Pattern call = Pattern.compile("\\b(" + String.join("|", methods) + ")\\(");
        Set<String> found = new TreeSet<>();
        for (Matcher m = call.matcher(body); m.find();) {
            found.add(m.group(1));
            String arguments = body.substring(m.end(), endOfArguments(body, m.end()));
            mustHold(!call.matcher(arguments).find(), name + ": no call inside the arguments of " + m.group(1));
        }
        return found;
    }

    private static int endOfArguments(String body, int from) {
        int open = 1;
        int at = from;
        while (open > 0) {
            open += body.charAt(at) == '(' ? 1 : body.charAt(at) == ')' ? -1 : 0;
            at++;
        }
        return at - 1;
    }

    private static void loops(String code) {
        String bounded = "\\1 <=? (?:[A-Z_]+|\\w+\\.length)(?: && [^;]*)?";
        Pattern counted = Pattern.compile("for \\(int (\\w+) = [^;]*; " + bounded + "; \\1\\+\\+\\) \\{");
        Matcher loop = Pattern.compile("(?m)\\bfor\\b.*$").matcher(code);
        int loops = 0;
        while (loop.find()) {
            loops++;
            mustHold(counted.matcher(loop.group()).matches(), "a counter against a bound: " + loop.group());
        }
        mustHold(loops > 10, "the loops are found");
        mustHold(!Pattern.compile("\\bdo\\b").matcher(code).find(), "no loop but for");
    }
}
