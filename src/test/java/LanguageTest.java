import java.lang.reflect.Constructor;
import java.lang.reflect.Field;
import java.lang.reflect.Method;
import java.lang.reflect.Modifier;
import java.nio.file.Files;
import java.nio.file.Path;
import java.util.ArrayList;
import java.util.List;
import java.util.Set;
import java.util.TreeSet;
import java.util.regex.Matcher;
import java.util.regex.Pattern;

/** What can be seen of LANGUAGE.md's rules without reading: words, lengths, the face. Run it from the project's root. */
public final class LanguageTest {
    private static final Check CHECK = new Check();
    private static final String FACE = "feed land fault place road pay move moves plan plays weather undo judge perform "
        + "journey rings ring reach onRing worth wins atLeast best secures meet plans energy at purse round paid rows sums "
        + "sumsAt weathers ask chance mean numbers write lists image restore count";

    public static void main(String[] args) throws Exception {
        String source = Files.readString(Path.of("src/main/java/MeanRoads.java"));
        String code = source.replaceAll("(?s)/\\*.*?\\*/", "").replaceAll("//[^\\n]*", "")
            .replaceAll("\"(\\\\.|[^\"\\\\])*\"", "TEXT");
        face();
        insides();
        words(code);
        lengths(code);
        CHECK.end();
    }

    private static void none(String what, Object found, boolean ok) {
        CHECK.due(what + " " + found, ok ? 0 : 1, 0);
    }

    private static void face() {
        Set<String> open = new TreeSet<>();
        for (Method m : MeanRoads.class.getDeclaredMethods()) {
            if (!Modifier.isPrivate(m.getModifiers())) {
                none("not public:", m, Modifier.isPublic(m.getModifiers()));
                open.add(m.getName());
            }
        }
        CHECK.due("the face", open.equals(new TreeSet<>(List.of(FACE.split(" ")))) ? 1 : 0, 1);
        for (Field f : MeanRoads.class.getDeclaredFields()) {
            none("a field in the face:", f, Modifier.isPrivate(f.getModifiers()) || f.getName().equals("NONE"));
        }
        for (Constructor<?> c : MeanRoads.class.getDeclaredConstructors()) {
            none("a constructor:", c, Modifier.isPublic(c.getModifiers()) && c.getParameterCount() == 0);
        }
        none("final", MeanRoads.class, Modifier.isFinal(MeanRoads.class.getModifiers()));
    }

    private static void insides() {
        List<Class<?>> all = new ArrayList<>(List.of(MeanRoads.class.getDeclaredClasses()));
        all.add(MeanRoads.class);
        none("classes:", all.size(), all.size() <= 12);
        Set<String> names = Set.of(FACE.split(" "));
        for (Class<?> c : all) {
            none("not static:", c, c == MeanRoads.class || Modifier.isStatic(c.getModifiers()));
            int fields = 0;
            for (Field f : c.getDeclaredFields()) {
                boolean isStatic = Modifier.isStatic(f.getModifiers());
                none("static, not final:", f, !isStatic || Modifier.isFinal(f.getModifiers()));
                fields += isStatic ? 0 : 1;
            }
            none("fields of " + c, fields, fields <= 20);
            for (Method m : c.getDeclaredMethods()) {
                none("parameters:", m, m.getParameterCount() <= 7);
                none("named as the face:", m, c == MeanRoads.class && Modifier.isPublic(m.getModifiers())
                    || !names.contains(m.getName()));
            }
        }
    }

    private static void words(String code) {
        Matcher m = Pattern.compile("\\b(throw|throws|try|catch|finally|synchronized|assert|package|native|volatile|"
            + "transient|instanceof|Object|System\\.(?!arraycopy)\\w+|Thread|HashMap|\\w+Exact|toString|hashCode|var)\\b|->|::|@")
            .matcher(code);
        while (m.find()) {
            none("a word that can't be:", m.group(), false);
        }
        m = Pattern.compile("import\\s+([\\w.*]+)").matcher(code);
        while (m.find()) {
            none("import", m.group(1), List.of("java.util.Arrays", "java.util.List", "java.util.ArrayList").contains(m.group(1)));
        }
        m = Pattern.compile("TEXT\\s*\\+|\\+\\s*TEXT|while\\s*\\(\\s*true|for\\s*\\(\\s*;\\s*;").matcher(code);
        while (m.find()) {
            none("a thing that can't be:", m.group(), false);
        }
    }

    /** Methods begin four or eight blanks in and end with a brace as far in. */
    private static void lengths(String code) {
        String[] lines = code.split("\n");
        for (int i = 0; i < lines.length; i++) {
            Matcher m = Pattern.compile("^(    |        )\\w[^=;]*\\)\\s*\\{$").matcher(lines[i]);
            if (m.find()) {
                int end = i;
                while (end < lines.length && !lines[end].equals(m.group(1) + "}")) {
                    end++;
                }
                none("long method:", lines[i].trim(), end - i < 60);
            }
        }
        for (String line : lines) {
            none("long line:", line, line.length() <= 120);
        }
    }
}
