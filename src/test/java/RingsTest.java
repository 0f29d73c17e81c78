/** Promises 17 to 20: rings, ring, reach, onRing. */
public final class RingsTest {
    private static final Check CHECK = new Check();

    public static void main(String[] args) {
        noRoads();
        two();
        manyWays();
        apart();
        longest();
        wrong();
        CHECK.end();
    }

    private static void due(String call, long got, long want) {
        CHECK.due(call, got, want);
    }

    private static void mean(MeanRoads x, int p, int which, long above, long below) {
        due("ring(" + p + ", " + which + ", 0)", x.ring(p, which, 0), above);
        due("ring(" + p + ", " + which + ", 1)", x.ring(p, which, 1), below);
    }

    private static void noRoads() {
        MeanRoads x = Check.of("land weather 0;place mine;place yours;");
        due("rings()", x.rings(), 2);
        due("reach(1)", x.reach(1), 2);
        due("onRing(0)", x.onRing(0), 3);
        mean(x, 1, 0, 0, 1);
    }

    private static void two() {
        MeanRoads x = Check.of("land weather 0;place mine;place yours;place mine;road 0 1 gains 1;road 1 0 gains 2;"
            + "road 1 2 loses 3;road 2 0 gains 1;road 2 2 loses 2;");
        due("rings()", x.rings(), 3);
        mean(x, 0, 1, 3, 2);
        mean(x, 0, 0, -2, 1);
        mean(x, 2, 0, -2, 1);
        due("onRing(1)", x.onRing(1), 3);
        due("onRing(0)", x.onRing(0), 4);
        due("reach(2)", x.reach(2), 7);
    }

    private static void manyWays() {
        MeanRoads x = Check.of("land weather 1;place mine;place yours;road 0 1 gains 1;road 0 1 gains 1;road 0 1 gains 3;"
            + "road 1 0 gains 2;road 1 0 loses 2;road 0 0 gains 5;open : road < 5 or weather = 2;");
        due("by other ways other ones", x.rings(), 6);
        mean(x, 1, 0, -1, 2);
        mean(x, 1, 1, 5, 2);
        x.weather(2);
        due("one more", x.rings(), 7);
        mean(x, 1, 1, 5, 1);
        due("onRing(1)", x.onRing(1), 1);
        due("onRing(0)", x.onRing(0), 3);
        StringBuilder all = new StringBuilder("land weather 0;");
        all.append("place mine;".repeat(4));
        for (int i = 0; i < 16; i++) {
            all.append("road ").append(i / 4).append(' ').append(i % 4).append(" gains ").append(i).append(';');
        }
        // 4 of one place, 6 of two, 4 * 2 of three, 6 of four
        due("all roads of four", Check.of(all.toString()).rings(), 24);
    }

    private static void apart() {
        MeanRoads x = Check.of("land weather 0;place mine;place mine;place mine;place mine;road 0 1 gains 9;"
            + "road 1 0 gains 4;road 2 3 loses 9;road 3 2 loses 4;road 0 2 gains 1;");
        due("reach(0)", x.reach(0), 15);
        due("reach(2)", x.reach(2), 12);
        mean(x, 0, 0, -13, 2);
        mean(x, 0, 1, 13, 2);
        mean(x, 3, 1, -13, 2);
        due("onRing(0)", x.onRing(0), 12);
        due("onRing(1)", x.onRing(1), 3);
    }

    /** Rings of one to eight places, the means of each alone. */
    private static void longest() {
        for (int n = 1; n <= 8; n++) {
            StringBuilder land = new StringBuilder("land weather 0;" + "place mine;".repeat(8));
            for (int i = 0; i < n; i++) {
                land.append("road ").append(8 - n + i).append(' ').append(8 - n + (i + 1) % n).append(" gains ")
                    .append(i == 0 ? 1 : 0).append(';');
            }
            MeanRoads x = Check.of(land.toString());
            mean(x, 7, 1, 1, n);
            due("rings() of " + n, x.rings(), 9 - n);
            due("onRing(1) of " + n, Check.of(land.toString()).onRing(1), 255 & ~((1 << 8 - n) - 1));
            due("reach(7) of " + n, Check.of(land.toString()).reach(7), 255 & ~((1 << 8 - n) - 1));
            due("worth(7, 1) of " + n, x.worth(7, 1), n);
        }
    }

    private static void wrong() {
        MeanRoads x = new MeanRoads();
        due("ring(1, 0, 0)", x.ring(1, 0, 0), Check.FAR - 2);
        due("ring(-1, 0, 0)", x.ring(-1, 0, 0), Check.FAR - 2);
        due("ring(0, 2, 0)", x.ring(0, 2, 0), Check.FAR - 2);
        due("ring(0, -1, 0)", x.ring(0, -1, 0), Check.FAR - 2);
        due("ring(0, 0, 2)", x.ring(0, 0, 2), Check.FAR - 2);
        due("ring(0, 0, -1)", x.ring(0, 0, -1), Check.FAR - 2);
        due("reach(1)", x.reach(1), -2);
        due("reach(-1)", x.reach(-1), -2);
        due("onRing(2)", x.onRing(2), -2);
        due("onRing(-1)", x.onRing(-1), -2);
    }
}
