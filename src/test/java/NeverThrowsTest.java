import java.lang.reflect.InvocationTargetException;
import java.lang.reflect.Method;
import java.util.Arrays;
import java.util.Comparator;
import java.util.Random;

/** Calls with any arguments in any order: none may throw, and the same calls give the same answers. */
public final class NeverThrowsTest {
    private static final long[] ODD = {0, 1, -1, 2, 3, 7, 8, 15, 16, 17, 40, 41, 99, 100, 899, 900, 901, 9999, 10000,
        Integer.MAX_VALUE, Integer.MIN_VALUE, Long.MAX_VALUE, Long.MIN_VALUE, 1_000_000_000_000_000L};
    private static final String LAND = "land weather 1;place mine;place yours;place mine;road 0 1 gains 99;road 1 2 loses 99;"
        + "road 2 0 gains 1;road 2 2 gains 5;road 1 1 loses 3;pays : told * weather;open : road + weather > 3 or to = 2;";

    public static void main(String[] args) throws Exception {
        Check check = new Check();
        Method[] face = Arrays.stream(MeanRoads.class.getMethods())
            .filter(m -> m.getDeclaringClass() == MeanRoads.class).toArray(Method[]::new);
        Arrays.sort(face, Comparator.comparing(Method::getName));
        check.due("methods", face.length, 44);
        for (int seed = 0; seed < 400; seed++) {
            Random random = new Random(seed);
            MeanRoads a = seed % 2 == 0 ? new MeanRoads() : Check.of(LAND);
            MeanRoads b = seed % 2 == 0 ? new MeanRoads() : Check.of(LAND);
            for (int i = 0; i < 480; i++) {
                Method m = face[random.nextInt(face.length)];
                Object[] values = new Object[m.getParameterCount()];
                for (int k = 0; k < values.length; k++) {
                    long v = random.nextInt(3) == 0 ? ODD[random.nextInt(ODD.length)]
                        : random.nextInt(9) == 0 ? random.nextLong() : random.nextInt(4);
                    values[k] = m.getParameterTypes()[k] == long.class ? (Object) v : (Object) (int) v;
                }
                String call = "seed " + seed + " call " + i + " " + m.getName() + Arrays.toString(values);
                try {
                    check.due(call, ((Number) m.invoke(a, values)).longValue(), ((Number) m.invoke(b, values)).longValue());
                } catch (InvocationTargetException e) {
                    check.due(call + " threw " + e.getCause(), 1, 0);
                }
            }
        }
        check.end();
    }
}
