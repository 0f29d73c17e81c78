import java.lang.management.ManagementFactory;

/** How much a run makes: all its calls live in one room, so calls should make next to nothing. */
public final class RoomTest {
    private static final Check CHECK = new Check();
    private static long kept = 0;

    public static void main(String[] args) {
        com.sun.management.ThreadMXBean bean = (com.sun.management.ThreadMXBean) ManagementFactory.getThreadMXBean();
        long id = Thread.currentThread().getId();
        int[] text = Check.ints(Check.bytes(text()));
        run(text);
        long before = bean.getThreadAllocatedBytes(id);
        run(text);
        long made = bean.getThreadAllocatedBytes(id) - before;
        // an element has 1 to 8 bytes: this is far below a hundredth of 7.3 million elements
        CHECK.due("bytes made by one run, " + made + ", are more than 200,000", made > 200_000 ? 1 : 0, 0);
        before = bean.getThreadAllocatedBytes(id);
        kept += new MeanRoads().count(0);
        made = bean.getThreadAllocatedBytes(id) - before;
        CHECK.due("bytes made by a new object, " + made + ", are more than 24,000", made > 24_000 ? 1 : 0, 0);
        CHECK.end();
    }

    private static String text() {
        StringBuilder b = new StringBuilder("land weather 0;place mine;place yours;place mine;place yours;place mine;");
        for (int i = 0; i < 16; i++) {
            b.append("road ").append(i * 5 / 16).append(' ').append(i * 7 % 5).append(i % 3 == 0 ? " gains " : " loses ")
                .append(i * 6).append(';');
        }
        return b.append("pays : if weather > road then told * 2 else told - weather end;open : not road = weather;")
            .toString();
    }

    private static void run(int[] text) {
        MeanRoads x = new MeanRoads();
        for (int round = 0; round < 8; round++) {
            for (int i = 0; i < text.length; i += 5) {
                x.feed(text[i], text[i + 1], text[i + 2], text[i + 3], text[i + 4]);
            }
            kept += x.land(text.length * 4);
            for (int k = 0; k < 3; k++) {
                calls(x, round + k);
            }
        }
    }

    private static void calls(MeanRoads x, int k) {
        kept += x.weather(k % 10) + x.worth(k % 5, 0) + x.rings() + x.meet() + x.energy(k % 5) + x.moves(99);
        kept += x.plays(k % 2) + x.rows(6, k) + x.sums(6) + x.chance(5, 0) + x.mean(5, 1) + x.journey(k, 40);
        kept += x.numbers(k % 4, k % 4, 8) + x.lists(k % 4) + x.judge(k % 4, 3) + x.perform(k % 4) + x.paid(9999);
        kept += x.image(k % 2) + x.undo(1) + x.restore(k % 2) + x.write(k % 4, 0, 1101) + x.weathers(k % 4) + x.ask(k % 4);
    }
}
