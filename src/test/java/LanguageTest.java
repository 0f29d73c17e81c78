import java.lang.reflect.Constructor;
import java.lang.reflect.Field;
import java.lang.reflect.Method;
import java.lang.reflect.Modifier;
import java.nio.file.Files;
import java.nio.file.Path;
import java.util.ArrayList;
import java.util.List;
import java.util.Map;
import java.util.Set;
import java.util.TreeMap;
import java.util.TreeSet;
import java.util.regex.Matcher;
import java.util.regex.Pattern;

/** What can be seen of LANGUAGE.md's rules without reading: words, lengths, the face. Run it from the project's root. */
public final class LanguageTest {
    private static final Check CHECK = new Check();
    private static final String FACE = "feed land fault place road pay move moves plan plays weather undo judge perform "
        + "journey rings ring reach onRing worth wins atLeast best secures meet plans energy at purse round paid rows sums "
        + "sumsAt weathers ask chance mean numbers write lists image restore count";

    public static void main(String[] args) throws Exception {
        String source = Files.readString(Path.of("src/main/java/MeanRoads.java"));
        String code = source.replaceAll("(?s)/\\*.*?\\*/", "").replaceAll("//[^\\n]*", "")
            .replaceAll("\"(\\\\.|[^\"\\\\])*\"", "TEXT");
        face();
        insides();
        words(code);
        lengths(code);
        depths(code);
        CHECK.end();
    }

    private static void none(String what, Object found, boolean ok) {
        CHECK.due(what + " " + found, ok ? 0 : 1, 0);
    }

    private static void face() {
        Set<String> open = new TreeSet<>();
        for (Method m : MeanRoads.class.getDeclaredMethods()) {
            if (!Modifier.isPrivate(m.getModifiers())) {
                none("not public:", m, Modifier.isPublic(m.getModifiers()));
                open.add(m.getName());
            }
        }
        CHECK.due("the face", open.equals(new TreeSet<>(List.of(FACE.split(" ")))) ? 1 : 0, 1);
        for (Field f : MeanRoads.class.getDeclaredFields()) {
            none("a field in the face:", f, Modifier.isPrivate(f.getModifiers()) || f.getName().equals("NONE"));
        }
        for (Constructor<?> c : MeanRoads.class.getDeclaredConstructors()) {
            none("a constructor:", c, Modifier.isPublic(c.getModifiers()) && c.getParameterCount() == 0);
        }
        none("final", MeanRoads.class, Modifier.isFinal(MeanRoads.class.getModifiers()));
    }

    private static void insides() {
        List<Class<?>> all = new ArrayList<>(List.of(MeanRoads.class.getDeclaredClasses()));
        all.add(MeanRoads.class);
        none("classes:", all.size(), all.size() <= 12);
        Set<String> names = Set.of(FACE.split(" "));
        for (Class<?> c : all) {
            none("not static:", c, c == MeanRoads.class || Modifier.isStatic(c.getModifiers()));
            int fields = 0;
            for (Field f : c.getDeclaredFields()) {
                boolean isStatic = Modifier.isStatic(f.getModifiers());
                none("static, not final:", f, !isStatic || Modifier.isFinal(f.getModifiers()));
                fields += isStatic ? 0 : 1;
            }
            none("fields of " + c, fields, fields <= 20);
            for (Method m : c.getDeclaredMethods()) {
                none("parameters:", m, m.getParameterCount() <= 7);
                none("named as the face:", m, c == MeanRoads.class && Modifier.isPublic(m.getModifiers())
                    || !names.contains(m.getName()));
            }
        }
    }

    private static void words(String code) {
        Matcher m = Pattern.compile("\\b(throw|throws|try|catch|finally|synchronized|assert|package|native|volatile|"
            + "transient|instanceof|Object|System\\.(?!arraycopy)\\w+|Thread|HashMap|\\w+Exact|toString|hashCode|var)\\b|->|::|@")
            .matcher(code);
        while (m.find()) {
            none("a word that can't be:", m.group(), false);
        }
        m = Pattern.compile("import\\s+([\\w.*]+)").matcher(code);
        while (m.find()) {
            none("import", m.group(1), List.of("java.util.Arrays", "java.util.List", "java.util.ArrayList").contains(m.group(1)));
        }
        m = Pattern.compile("TEXT\\s*\\+|\\+\\s*TEXT|while\\s*\\(\\s*true|for\\s*\\(\\s*;\\s*;").matcher(code);
        while (m.find()) {
            none("a thing that can't be:", m.group(), false);
        }
    }

    /** Methods begin four or eight blanks in and end with a brace as far in. */
    private static void lengths(String code) {
        String[] lines = code.split("\n");
        for (int i = 0; i < lines.length; i++) {
            Matcher m = Pattern.compile("^(    |        )\\w[^=;]*\\)\\s*\\{$").matcher(lines[i]);
            if (m.find()) {
                int end = i;
                while (end < lines.length && !lines[end].equals(m.group(1) + "}")) {
                    end++;
                }
                none("long method:", lines[i].trim(), end - i < 60);
            }
        }
        for (String line : lines) {
            none("long line:", line, line.length() <= 120);
        }
    }

    /** Rule 11: how deep calls go that are no recursion. Methods that call one another in a ring count as one. */
    private static void depths(String code) {
        Map<String, Set<String>> calls = callsByMethod(code);
        Map<String, Set<String>> reached = new TreeMap<>();
        for (String method : calls.keySet()) {
            reached.put(method, new TreeSet<>());
            List<String> todo = new ArrayList<>(calls.get(method));
            while (!todo.isEmpty()) {
                String next = todo.remove(todo.size() - 1);
                if (reached.get(method).add(next)) {
                    todo.addAll(calls.get(next));
                }
            }
        }
        Map<String, Integer> deep = new TreeMap<>();
        for (String method : calls.keySet()) {
            int depth = depth(method, calls, reached, deep);
            none("calls " + depth + " deep:", method, depth <= 8);
        }
        none("all methods are seen:", calls.size(), calls.size() > 150);
        none("the deepest is seen:", deep.get("MeanRoads.judge"), deep.get("MeanRoads.judge") > 4);
    }

    private static int depth(String method, Map<String, Set<String>> calls, Map<String, Set<String>> reached,
                             Map<String, Integer> deep) {
        if (deep.containsKey(method)) {
            return deep.get(method);
        }
        Set<String> ring = new TreeSet<>(Set.of(method));
        for (String other : reached.get(method)) {
            if (reached.get(other).contains(method)) {
                ring.add(other);
            }
        }
        int below = 0;
        for (String one : ring) {
            for (String next : calls.get(one)) {
                below = ring.contains(next) ? below : Math.max(below, depth(next, calls, reached, deep));
            }
        }
        deep.put(method, below + 1);
        return below + 1;
    }

    /** By names: a call without an object is the class's own or the outer one's, another any of that name. */
    private static Map<String, Set<String>> callsByMethod(String code) {
        Map<String, String> bodies = bodies(code);
        Map<String, Set<String>> calls = new TreeMap<>();
        for (Map.Entry<String, String> e : bodies.entrySet()) {
            String own = e.getKey().substring(0, e.getKey().indexOf('.') + 1);
            Set<String> all = new TreeSet<>();
            Matcher m = Pattern.compile("(\\.)?\\b(\\w+)\\(").matcher(e.getValue());
            while (m.find()) {
                String name = m.group(2);
                if (m.group(1) == null) {
                    all.add((bodies.containsKey(own + name) ? own : "MeanRoads.") + name);
                } else {
                    bodies.keySet().stream().filter(k -> k.endsWith("." + name)).forEach(all::add);
                }
            }
            all.retainAll(bodies.keySet());
            calls.put(e.getKey(), all);
        }
        return calls;
    }

    private static Map<String, String> bodies(String code) {
        Map<String, String> bodies = new TreeMap<>();
        String[] lines = code.split("\n");
        String inside = "MeanRoads";
        for (int i = 0; i < lines.length; i++) {
            Matcher c = Pattern.compile("^    private static final class (\\w+) \\{$").matcher(lines[i]);
            inside = c.find() ? c.group(1) : lines[i].equals("    }") ? "MeanRoads" : inside;
            Matcher m = Pattern.compile("^(    |        )\\w[^=;]*?(\\w+)\\([^=;]*\\) \\{$").matcher(lines[i]);
            if (m.find() && m.group(1).length() == (inside.equals("MeanRoads") ? 4 : 8)) {
                StringBuilder body = new StringBuilder();
                String name = inside + "." + m.group(2);
                while (++i < lines.length && !lines[i].equals(m.group(1) + "}")) {
                    body.append(lines[i]).append('\n');
                }
                bodies.put(name, body.toString());
            }
        }
        return bodies;
    }
}
