import java.lang.reflect.Field;
import java.lang.reflect.Modifier;
import java.nio.file.Files;
import java.nio.file.Path;
import java.util.ArrayList;
import java.util.HashMap;
import java.util.HashSet;
import java.util.List;
import java.util.Map;
import java.util.Set;
import java.util.TreeMap;
import java.util.TreeSet;
import java.util.regex.Matcher;
import java.util.regex.Pattern;

/**
 * Rules 8 and 11 of LANGUAGE.md: which methods call themselves, how deep the others go, how many
 * fields a class has. Calls are found in the text of the class, where each method has a name of its own.
 */
public final class CallsTest {
    private static final int DEEPEST = 8;
    private static final int MOST_FIELDS = 20;
    /** All that call themselves, by others or not; each has a guard on its depth. */
    private static final Set<String> RECURSIVE = new TreeSet<>(List.of("readSum", "readProduct", "readOne",
            "readInner", "readChoice", "readEither", "readBoth", "readAsk", "extend", "parted", "fill"));
    private static final Pattern METHOD =
            Pattern.compile("^( {4}| {8})((?:public |private |static |final )*)([\\w\\[\\]]+) (\\w+)\\([^()]*\\) \\{$");

    private static final Map<String, Set<String>> CALLS = new TreeMap<>();
    private static final Map<String, Set<String>> REACHED = new HashMap<>();

    public static void main(String[] args) throws Exception {
        List<String> lines = Files.readAllLines(Path.of("src/main/java/RainOnTheOne.java"));
        Map<String, String> bodies = methods(lines);
        Check.due("methods are found", bodies.size() > 100, true);
        for (String name : bodies.keySet()) {
            CALLS.put(name, calledIn(bodies.get(name), bodies.keySet()));
        }
        Check.due("played calls act", CALLS.get("played").contains("act"), true);
        Set<String> recursive = new TreeSet<>();
        for (String name : CALLS.keySet()) {
            REACHED.put(name, reachedFrom(name));
            if (REACHED.get(name).contains(name)) {
                recursive.add(name);
            }
        }
        Check.due("those that call themselves", recursive.toString(), RECURSIVE.toString());
        for (String name : CALLS.keySet()) {
            Check.due("calls deep from " + name, depthOf(name) <= DEEPEST, true);
        }
        Check.due("some do go deep", depthOf("played") > 4, true);
        fields(RainOnTheOne.class);
        Check.finish();
    }

    private static Map<String, String> methods(List<String> lines) {
        Map<String, String> bodies = new TreeMap<>();
        for (int i = 0; i < lines.size(); i++) {
            Matcher m = METHOD.matcher(lines.get(i));
            if (m.matches() && !m.group(3).matches("else|new|return")) {
                StringBuilder body = new StringBuilder();
                for (int k = i + 1; k < lines.size() && !lines.get(k).equals(m.group(1) + "}"); k++) {
                    body.append(lines.get(k).replaceAll("//.*", "")).append('\n');
                }
                Check.due("a name of its own: " + m.group(4), bodies.containsKey(m.group(4)), false);
                bodies.put(m.group(4), body.toString());
            }
        }
        return bodies;
    }

    private static Set<String> calledIn(String body, Set<String> names) {
        Set<String> called = new TreeSet<>();
        Matcher m = Pattern.compile("\\b(\\w+)\\(").matcher(body);
        while (m.find()) {
            // Math.max and their like are none of these, whatever their names
            boolean library = body.substring(0, m.start()).matches("(?s).*\\b(Math|Integer|System)\\.");
            if (names.contains(m.group(1)) && !library) {
                called.add(m.group(1));
            }
        }
        return called;
    }

    private static Set<String> reachedFrom(String name) {
        Set<String> reached = new HashSet<>();
        List<String> open = new ArrayList<>(CALLS.get(name));
        while (!open.isEmpty()) {
            String next = open.remove(open.size() - 1);
            if (reached.add(next)) {
                open.addAll(CALLS.get(next));
            }
        }
        return reached;
    }

    /** How many calls stand open at once; those that call one another count as one. */
    private static int depthOf(String name) {
        int deepest = 0;
        Set<String> together = new HashSet<>(Set.of(name));
        for (String other : REACHED.get(name)) {
            if (REACHED.get(other).contains(name)) {
                together.add(other);
            }
        }
        for (String one : together) {
            for (String next : CALLS.get(one)) {
                if (!together.contains(next)) {
                    deepest = Math.max(deepest, depthOf(next));
                }
            }
        }
        return deepest + 1;
    }

    private static void fields(Class<?> type) {
        int many = 0;
        for (Field f : type.getDeclaredFields()) {
            many += f.isSynthetic() || Modifier.isStatic(f.getModifiers()) ? 0 : 1;
        }
        Check.due("fields of " + type + ": " + many, many <= MOST_FIELDS, true);
        for (Class<?> inner : type.getDeclaredClasses()) {
            fields(inner);
        }
    }
}
