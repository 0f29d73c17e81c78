import java.nio.charset.StandardCharsets;
import java.util.Arrays;

/** What all tests here use: to hold an answer against the one that is due, to tell a land. */
final class Check {
    static final long FAR = -9_000_000_000_000_000_000L;
    private int wrong = 0;

    void due(String call, long got, long want) {
        if (got != want) {
            wrong++;
            System.out.println(call + " answered " + got + ", due is " + want);
        }
    }

    void holds(String what, boolean does) {
        if (!does) {
            wrong++;
            System.out.println(what + " does not hold");
        }
    }

    /** A call by one of its numbers, the others being as they may be. */
    interface By {
        long answer(int v);
    }

    /** The numbers from low to high are taken, those on either side and the farthest are refused by a code. */
    void bounds(String call, int low, int high, long code, By by) {
        for (int v = low; v <= high; v = v < low + 50 || v >= high - 50 ? v + 1 : high - 50) {
            long got = by.answer(v);
            if (got == code) {
                wrong++;
                System.out.println(call + " by " + v + " was refused by " + got);
            }
        }
        due(call + " by " + (low - 1), by.answer(low - 1), code);
        due(call + " by " + (high + 1), by.answer(high + 1), code);
        due(call + " by the least int", by.answer(Integer.MIN_VALUE), code);
        due(call + " by the greatest int", by.answer(Integer.MAX_VALUE), code);
    }

    /** Prints how it went; the test's exit code is 1 if something was wrong. */
    void end() {
        System.out.println(wrong == 0 ? "all answers are as due" : wrong + " answers are not as due");
        if (wrong != 0) {
            System.exit(1);
        }
    }

    /** The ints by which a text comes onto the tape, filled up with blanks. */
    static int[] ints(byte[] text) {
        int feeds = (text.length + 19) / 20;
        byte[] full = Arrays.copyOf(text, feeds * 20);
        Arrays.fill(full, text.length, full.length, (byte) 32);
        int[] all = new int[feeds * 5];
        java.nio.ByteBuffer.wrap(full).asIntBuffer().get(all);
        return all;
    }

    static byte[] bytes(String text) {
        return text.getBytes(StandardCharsets.ISO_8859_1);
    }

    /** A text comes onto the tape, with the blanks that fill up its last twenty bytes. */
    static void feed(MeanRoads x, String text) {
        int[] v = ints(bytes(text));
        for (int i = 0; i < v.length; i += 5) {
            x.feed(v[i], v[i + 1], v[i + 2], v[i + 3], v[i + 4]);
        }
    }

    static int tell(MeanRoads x, String text) {
        feed(x, text);
        return x.land(text.length());
    }

    /** A new object with a land. */
    static MeanRoads of(String text) {
        MeanRoads x = new MeanRoads();
        int lines = tell(x, text);
        if (lines < 1) {
            System.out.println("a test's land was not read: " + lines + " " + text);
            System.exit(1);
        }
        return x;
    }

    static void fill(MeanRoads x, int tray, long... values) {
        x.numbers(tray, 3, values.length);
        for (int i = 0; i < values.length; i++) {
            x.write(tray, i, values[i]);
        }
    }
}
