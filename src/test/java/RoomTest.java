import java.lang.management.ManagementFactory;
import java.lang.reflect.Array;
import java.lang.reflect.Field;
import java.lang.reflect.Modifier;
import java.nio.file.Files;
import java.nio.file.Path;
import java.util.IdentityHashMap;
import java.util.Map;
import java.util.TreeMap;
import java.util.TreeSet;
import java.util.Set;
import java.util.regex.Matcher;
import java.util.regex.Pattern;

/**
 * What a run makes: what the call that makes most makes, times 512 calls, and what the constructor makes added to it.
 * Each call is measured alone, an object's first call of each name too. Run it from the project's root.
 */
public final class RoomTest {
    private static final Check CHECK = new Check();
    private static final int CALLS = 512;
    private static final int MOST_OBJECTS = 200;
    private static final int MOST_ELEMENTS = 15_000;
    private static final String NAMES = "feed land fault place road pay move moves plan plays weather undo judge perform "
        + "journey rings ring reach onRing worth wins atLeast best secures meet plans energy at purse round paid rows sums "
        + "sumsAt weathers ask chance mean numbers write lists image restore count";
    private static final String[] CALL_NAMES = NAMES.split(" ");

    private static final com.sun.management.ThreadMXBean BEAN =
        (com.sun.management.ThreadMXBean) ManagementFactory.getThreadMXBean();
    private static final long THREAD = Thread.currentThread().getId();

    private static final Map<String, Long> MOST_BYTES = new TreeMap<>();
    private static long kept = 0;
    private static long objects = 0;
    private static long elements = 0;

    public static void main(String[] args) throws Exception {
        madeByConstructorsAlone();
        int[] text = Check.ints(Check.bytes(text()));
        // the classes are loaded by a first round, whose bytes are the machine's own
        firstCalls(text);
        runsOfCalls(text);
        MOST_BYTES.clear();
        firstCalls(text);
        runsOfCalls(text);
        long dearest = 0;
        for (Map.Entry<String, Long> e : MOST_BYTES.entrySet()) {
            CHECK.due("bytes made by one call of " + e.getKey(), e.getValue(), 0);
            dearest = Math.max(dearest, e.getValue());
        }
        CHECK.due("names of calls that were measured", MOST_BYTES.size(), CALL_NAMES.length);
        wholeRun(dearest, text);
        CHECK.end();
    }

    /** An element has a byte at least, so the bytes of a call are as many elements at most. */
    private static void wholeRun(long dearest, int[] text) throws Exception {
        MeanRoads x = new MeanRoads();
        count(x);
        CHECK.due("objects " + objects + " are too many", objects + dearest * CALLS > MOST_OBJECTS ? 1 : 0, 0);
        CHECK.due("elements " + elements + " are too many", elements + dearest * CALLS > MOST_ELEMENTS ? 1 : 0, 0);
        long objectsNew = objects;
        long elementsNew = elements;
        measured(x, text, CALL_NAMES.length, 3);
        count(x);
        CHECK.due("a run keeps more objects", objects > objectsNew ? 1 : 0, 0);
        CHECK.due("a run keeps more elements", elements > elementsNew ? 1 : 0, 0);
        long before = BEAN.getThreadAllocatedBytes(THREAD);
        kept += new MeanRoads().count(0);
        long made = BEAN.getThreadAllocatedBytes(THREAD) - before;
        CHECK.due("bytes made by the constructor, " + made + ", are more than it keeps",
            made > 8 * elements + 24 * objects ? 1 : 0, 0);
    }

    /** Each name is the first call of a new object: without a land, then behind one. */
    private static void firstCalls(int[] text) {
        for (int name = 0; name < CALL_NAMES.length; name++) {
            for (int k = 0; k < 6; k++) {
                one(new MeanRoads(), text, name, k);
                MeanRoads x = new MeanRoads();
                read(x, text);
                one(x, text, name, k);
            }
        }
    }

    private static void runsOfCalls(int[] text) {
        for (int k = 0; k < 12; k++) {
            MeanRoads x = new MeanRoads();
            if (k % 3 != 0) {
                read(x, text);
            }
            measured(x, text, CALL_NAMES.length, 1 + k % 7);
        }
    }

    private static void measured(MeanRoads x, int[] text, int names, int stride) {
        for (int i = 0; i < CALLS - 40; i++) {
            one(x, text, i * (stride + 1) % names, i);
            one(x, text, i % names, i / names);
        }
    }

    private static void one(MeanRoads x, int[] text, int name, int k) {
        int first = CALL_NAMES[name].equals("feed") ? k % (text.length / 5) * 5 : 0;
        long before = BEAN.getThreadAllocatedBytes(THREAD);
        kept += call(x, name, k, text, first);
        long made = BEAN.getThreadAllocatedBytes(THREAD) - before;
        Long most = MOST_BYTES.get(CALL_NAMES[name]);
        MOST_BYTES.put(CALL_NAMES[name], most == null ? made : Math.max(most, made));
    }

    private static long call(MeanRoads x, int name, int k, int[] text, int first) {
        switch (CALL_NAMES[name]) {
            case "feed": return x.feed(text[first], text[first + 1], text[first + 2], text[first + 3], text[first + 4]);
            case "land": return x.land(x.count(8) - k % 2);
            case "fault": return x.fault(k % 3);
            case "place": return x.place(k % 9, k % 5);
            case "road": return x.road(k % 17, k % 4);
            case "pay": return x.pay(k % 17);
            case "move": return x.move(k % 18);
            case "moves": return x.moves(99 + k % 2);
            case "plan": return x.plan(k % 6, k % 17 - 1);
            case "plays": return x.plays(k % 3);
            case "weather": return x.weather(k % 11);
            case "undo": return x.undo(k % 3);
            case "judge": return x.judge(k % 5, k % 5);
            case "perform": return x.perform(k % 5);
            case "journey": return x.journey(k, 40 + k % 2);
            case "rings": return x.rings();
            case "ring": return x.ring(k % 6, k % 2, k % 3);
            case "reach": return x.reach(k % 6);
            case "onRing": return x.onRing(k % 3);
            case "worth": return x.worth(k % 6, k % 3);
            case "wins": return x.wins(k % 4);
            case "atLeast": return x.atLeast(k % 6, k, 7);
            case "best": return x.best(k % 6);
            case "secures": return x.secures(k % 3, k % 5, k % 2);
            case "meet": return x.meet();
            case "plans": return x.plans(k % 3, k % 5);
            case "energy": return x.energy(k % 6);
            default: return laterCall(x, name, k);
        }
    }

    private static long laterCall(MeanRoads x, int name, int k) {
        switch (CALL_NAMES[name]) {
            case "at": return x.at(1_000_000_000_000L * k);
            case "purse": return x.purse(999_999_999_999L * k);
            case "round": return x.round(k % 3);
            case "paid": return x.paid(9999 + k % 2);
            case "rows": return x.rows(6 + k % 2, k);
            case "sums": return x.sums(6 + k % 2);
            case "sumsAt": return x.sumsAt(k % 6, 6);
            case "weathers": return x.weathers(k % 5);
            case "ask": return x.ask(k % 5);
            case "chance": return x.chance(5 + k % 2, k / 2 % 2);
            case "mean": return x.mean(5 + k % 2, k / 2 % 2);
            case "numbers": return x.numbers(k % 5, k / 5 % 4, k % 2 == 0 ? 40 : 8);
            case "write": return x.write(k % 5, 0, 1000L * (k % 17) + 100 + k % 9);
            case "lists": return x.lists(k % 5);
            case "image": return x.image(k % 3);
            case "restore": return x.restore(k % 3);
            default: return x.count(k % 11);
        }
    }

    private static void read(MeanRoads x, int[] text) {
        for (int i = 0; i + 4 < text.length; i += 5) {
            x.feed(text[i], text[i + 1], text[i + 2], text[i + 3], text[i + 4]);
        }
        CHECK.due("the land is read", x.land(text.length * 4) > 0 ? 1 : 0, 1);
    }

    private static String text() {
        StringBuilder b = new StringBuilder("land weather 0;place mine;place yours;place mine;place yours;place mine;");
        for (int i = 0; i < 16; i++) {
            b.append("road ").append(i * 5 / 16).append(' ').append(i * 7 % 5).append(i % 3 == 0 ? " gains " : " loses ")
                .append(i * 6).append(';');
        }
        return b.append("pays : if weather > road then told * 2 else told - weather end;open : not road = weather;")
            .toString();
    }

    /** Objects and arrays that an object holds, itself too, and their fields and elements. */
    private static void count(Object root) throws Exception {
        objects = 0;
        elements = 0;
        walk(root, new IdentityHashMap<>());
    }

    private static void walk(Object here, Map<Object, Object> seen) throws Exception {
        if (here == null || here instanceof String || seen.put(here, here) != null) {
            return;
        }
        objects++;
        if (here.getClass().isArray()) {
            elements += Array.getLength(here);
            for (int i = 0; here instanceof Object[] && i < Array.getLength(here); i++) {
                walk(Array.get(here, i), seen);
            }
            return;
        }
        for (Field f : here.getClass().getDeclaredFields()) {
            if (!Modifier.isStatic(f.getModifiers())) {
                elements++;
                f.setAccessible(true);
                if (!f.getType().isPrimitive()) {
                    walk(f.get(here), seen);
                }
            }
        }
    }

    /** In the text itself: every "new" stands in a field's first value or in a constructor. */
    private static void madeByConstructorsAlone() throws Exception {
        Set<String> classes = new TreeSet<>(Set.of("MeanRoads"));
        for (Class<?> c : MeanRoads.class.getDeclaredClasses()) {
            classes.add(c.getSimpleName());
        }
        String method = "";
        String end = "";
        int line = 0;
        for (String text : Files.readAllLines(Path.of("src/main/java/MeanRoads.java"))) {
            line++;
            Matcher begins = Pattern.compile("^( {4}| {8})(?:\\w[^=;(]* )?(\\w+)\\([^=;]*\\) \\{$").matcher(text);
            if (method.isEmpty() && begins.find()) {
                method = begins.group(2);
                end = begins.group(1) + "}";
            }
            boolean makes = Pattern.compile("\\bnew\\b(?! one)|\\.clone\\(|copyOf|StringBuilder|substring|toCharArray")
                .matcher(text.replaceAll("//.*|/?\\*.*", "")).find();
            boolean isField = Pattern.compile("^ {4,8}(private |static )*(final )?[\\w\\[\\]]+ \\w+ = new ").matcher(text).find()
                && method.isEmpty();
            CHECK.due("line " + line + " makes something in a call", makes && !isField && !classes.contains(method) ? 1 : 0, 0);
            if (text.equals(end)) {
                method = "";
            }
        }
    }
}
