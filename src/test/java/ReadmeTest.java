import java.lang.reflect.Method;
import java.nio.ByteBuffer;
import java.nio.charset.StandardCharsets;
import java.nio.file.Files;
import java.nio.file.Path;
import java.util.ArrayList;
import java.util.List;
import java.util.Set;
import java.util.TreeSet;
import java.util.regex.Matcher;
import java.util.regex.Pattern;

/** The calls that README.md shows, made one after the other, with the answers that stand behind them. Run it from the root. */
public final class ReadmeTest {
    private static final Check CHECK = new Check();
    private static final Pattern STATEMENT = Pattern.compile(
        "(MeanRoads x = new MeanRoads\\(\\)|x\\.(\\w+)\\(([^)]*)\\)|tell\\(x, \"(.*)\"\\)); *(?:// (-?\\d+)(?:[ :].*)?)?");
    private static final Set<String> SHOWN = new TreeSet<>();
    private static MeanRoads x = null;

    public static void main(String[] args) throws Exception {
        String readme = Files.readString(Path.of("README.md"));
        String own = Files.readString(Path.of("src/test/java/ReadmeTest.java"));
        Matcher block = Pattern.compile("(?s)```java\\n(.*?)```").matcher(readme);
        boolean toldBefore = false;
        while (block.find()) {
            String code = block.group(1);
            if (code.startsWith("static ")) {
                // the method shown is the one that stands in this file and is used here
                CHECK.holds("README.md shows tell() as it is tried here", own.contains(code.indent(4)));
                toldBefore = true;
                continue;
            }
            CHECK.holds("README.md shows tell() ahead of its use", toldBefore || !code.contains("tell("));
            for (String statement : statements(code)) {
                make(statement);
            }
        }
        CHECK.holds("README.md shows tell()", toldBefore);
        everyCallIsShown();
        everyTestIsNamed(readme);
        CHECK.end();
    }

    static int tell(MeanRoads x, String text) {
        ByteBuffer bytes = ByteBuffer.allocate((text.length() + 19) / 20 * 20);
        bytes.put(text.getBytes(StandardCharsets.ISO_8859_1)).rewind();
        while (bytes.hasRemaining()) {
            x.feed(bytes.getInt(), bytes.getInt(), bytes.getInt(), bytes.getInt(), bytes.getInt());
        }
        return x.land(text.length());
    }

    /** Lines that go on (those a text is joined over) put together. */
    private static List<String> statements(String code) {
        List<String> all = new ArrayList<>();
        StringBuilder open = new StringBuilder();
        for (String line : code.split("\n")) {
            open.append(line.trim()).append(' ');
            if (line.contains(");")) {
                all.add(open.toString().replaceAll("\" *\\+ *\"", "").trim());
                open.setLength(0);
            }
        }
        CHECK.holds("a statement that ends: " + open, open.toString().isBlank());
        return all;
    }

    private static void make(String statement) throws Exception {
        Matcher m = STATEMENT.matcher(statement);
        if (!m.matches()) {
            CHECK.holds("a statement that is understood: " + statement, false);
            return;
        }
        if (m.group(1).startsWith("MeanRoads")) {
            x = new MeanRoads();
            return;
        }
        CHECK.holds("an answer behind " + statement, m.group(5) != null);
        long want = m.group(5) == null ? 0 : Long.parseLong(m.group(5));
        long got = m.group(4) != null ? tell(x, m.group(4)) : call(m.group(2), m.group(3));
        CHECK.due(statement, got, want);
    }

    private static long call(String name, String told) throws Exception {
        String[] values = told.isBlank() ? new String[0] : told.split(", *");
        for (Method m : MeanRoads.class.getDeclaredMethods()) {
            if (m.getName().equals(name) && m.getParameterCount() == values.length) {
                Object[] given = new Object[values.length];
                for (int i = 0; i < values.length; i++) {
                    long v = Long.parseLong(values[i].replaceAll("L$", ""));
                    // by a cast as Java makes one: an int where a long is wanted, never the other way
                    given[i] = m.getParameterTypes()[i] == long.class ? (Object) v : (Object) Math.toIntExact(v);
                }
                SHOWN.add(name);
                return ((Number) m.invoke(x, given)).longValue();
            }
        }
        CHECK.holds("a call of the face: " + name + "(" + told + ")", false);
        return 0;
    }

    private static void everyCallIsShown() {
        for (Method m : MeanRoads.class.getMethods()) {
            boolean isOwn = m.getDeclaringClass() == MeanRoads.class;
            CHECK.holds("README.md shows " + m.getName(), !isOwn || SHOWN.contains(m.getName()));
        }
    }

    private static void everyTestIsNamed(String readme) throws Exception {
        try (var files = Files.list(Path.of("src/test/java"))) {
            for (Path file : (Iterable<Path>) files::iterator) {
                String name = file.getFileName().toString().replace(".java", "");
                CHECK.holds("README.md names " + name, !name.endsWith("Test") || readme.contains("`" + name + "`"));
            }
        }
    }
}
