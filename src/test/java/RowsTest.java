/** Promises 33 to 35: rows, sums, sumsAt; 36, 37: weathers, ask; 38, 39: chance, mean. */
public final class RowsTest {
    private static final Check CHECK = new Check();

    public static void main(String[] args) {
        pascal();
        widest();
        wrongRows();
        paid();
        wrongPaid();
        lots();
        manyLots();
        wrongLots();
        CHECK.end();
    }

    private static void due(String call, long got, long want) {
        CHECK.due(call, got, want);
    }

    private static void pascal() {
        MeanRoads x = Check.of("land weather 0;place mine;place yours;road 0 0 gains 1;road 0 1 loses 1;road 1 1 gains 1;"
            + "road 1 0 loses 1;");
        int[] want = {1, 0, 6, 0, 15, 0, 20, 0, 15, 0, 6, 0, 1};
        for (int i = 0; i < want.length; i++) {
            due("rows(6, " + (i - 6) + ")", x.rows(6, i - 6), want[i]);
        }
        due("rows(0, 0)", x.rows(0, 0), 1);
        due("rows(0, 1)", x.rows(0, 1), 0);
        due("rows(6, 7)", x.rows(6, 7), 0);
        due("rows(6, least int)", x.rows(6, Integer.MIN_VALUE), 0);
        due("rows(6, greatest int)", x.rows(6, Integer.MAX_VALUE), 0);
        due("sums(6)", x.sums(6), 7);
        due("sums(0)", x.sums(0), 1);
        due("sumsAt(0, 6)", x.sumsAt(0, 6), 4);
        due("sumsAt(1, 6)", x.sumsAt(1, 6), 3);
        due("sumsAt(1, 0)", x.sumsAt(1, 0), 0);
        due("sumsAt(0, 0)", x.sumsAt(0, 0), 1);
        x.move(1);
        due("from now on", x.rows(1, -1), 1);
        due("sumsAt(1, 0)", x.sumsAt(1, 0), 1);
    }

    private static void widest() {
        MeanRoads x = Check.of("land weather 0;place mine;" + "road 0 0 gains 99;".repeat(8) + "road 0 0 loses 99;".repeat(8));
        due("rows(6, 594)", x.rows(6, 594), 262144);
        due("rows(6, -594)", x.rows(6, -594), 262144);
        due("rows(6, 0)", x.rows(6, 0), 20 * 262144);
        due("sums(6)", x.sums(6), 7);
        x = Check.of("land weather 0;place mine;" + "road 0 0 gains 99;".repeat(16));
        due("rows(6, 594) of 16 roads", x.rows(6, 594), 16777216);
    }

    private static void wrongRows() {
        MeanRoads x = new MeanRoads();
        due("rows(7, 0)", x.rows(7, 0), -3);
        due("rows(-1, 0)", x.rows(-1, 0), -3);
        due("sums(7)", x.sums(7), -3);
        due("sums(-1)", x.sums(-1), -3);
        due("sumsAt(1, 7): the place first", x.sumsAt(1, 7), -2);
        due("sumsAt(-1, 0)", x.sumsAt(-1, 0), -2);
        due("sumsAt(0, 7)", x.sumsAt(0, 7), -3);
        due("sumsAt(0, -1)", x.sumsAt(0, -1), -3);
    }

    /** Road 0 tells 5 weathers from 5 others, road 1 is the same by all, road 2 goes by threes. */
    private static void paid() {
        MeanRoads x = Check.of("land weather 0;place mine;road 0 0 gains 1;road 0 0 gains 2;road 0 0 loses 3;"
            + "pays : if road = 0 then if weather < 5 then 1 else 0 - 1 end else if road = 1 then told else "
            + "if weather < 3 then 99 else if weather < 6 then 0 - 99 else if weather < 9 then 3 else 4 end end end end end;"
            + "open : weather = 1;");
        Check.fill(x, 0, 101);
        due("road 0 paid 1", x.weathers(0), 0b11111);
        due("ask", x.ask(0), 2);
        Check.fill(x, 0, 101, 2199);
        due("and road 2 99", x.weathers(0), 0b111);
        due("ask: none tells, the first", x.ask(0), 0);
        Check.fill(x, 0, 2001);
        due("road 2 paid -99", x.weathers(0), 0b111000);
        due("ask: road 0 by 2", x.ask(0), 0);
        Check.fill(x, 0, 1102, 1102, 1102, 1102, 1102, 1102, 1102, 1102);
        due("all", x.weathers(0), 1023);
        due("ask: road 2 by 3", x.ask(0), 2);
        MeanRoads y = Check.of("land weather 0;place mine;road 0 0 gains 1;road 0 0 gains 2;"
            + "pays : if road = 0 then 5 else weather end;");
        Check.fill(y, 0, 1100);
        due("weather 0 alone", y.weathers(0), 1);
        due("ask: all tell it, the first", y.ask(0), 0);
        Check.fill(x, 0, 1103);
        due("none", x.weathers(0), 0);
        due("ask of none", x.ask(0), -1);
    }

    private static void wrongPaid() {
        MeanRoads x = Check.of("land weather 0;place mine;road 0 0 gains 1;");
        for (int tray : new int[] {-1, 4}) {
            due("weathers(" + tray + ")", x.weathers(tray), -2);
            due("ask(" + tray + ")", x.ask(tray), -2);
        }
        due("weathers(0)", x.weathers(0), -6);
        due("ask(0)", x.ask(0), -6);
        Check.fill(x, 0);
        due("no numbers", x.weathers(0), -4);
        Check.fill(x, 0, 1, 2, 3, 4, 5, 6, 7, 8, 9);
        due("nine numbers", x.weathers(0), -4);
        due("nine numbers", x.ask(0), -4);
        for (long v : new long[] {-1, 0, 200, 1000, 1100, -899, Long.MIN_VALUE, Long.MAX_VALUE, 1L << 32, 999}) {
            Check.fill(x, 0, 101, v);
            due("weathers of " + v, x.weathers(0), -3);
            due("ask of " + v, x.ask(0), -3);
        }
        MeanRoads z = Check.of("land weather 0;place mine;" + "road 0 0 gains 1;".repeat(16));
        Check.fill(z, 0, 15101);
        due("road 15", z.weathers(0), 1023);
        Check.fill(z, 0, 16005);
        due("road 16", z.weathers(0), -3);
        Check.fill(x, 0, 1);
        due("-99", x.weathers(0), 0);
        Check.fill(x, 0, 199);
        due("99", x.weathers(0), 0);
        MeanRoads y = new MeanRoads();
        Check.fill(y, 0, 101);
        due("no roads", y.ask(0), -3);
    }

    private static void chance(MeanRoads x, int n, long above, long below) {
        due("chance(" + n + ", 0)", x.chance(n, 0), above);
        due("chance(" + n + ", 1)", x.chance(n, 1), below);
    }

    private static void mean(MeanRoads x, int n, long above, long below) {
        due("mean(" + n + ", 0)", x.mean(n, 0), above);
        due("mean(" + n + ", 1)", x.mean(n, 1), below);
    }

    private static void lots() {
        MeanRoads x = Check.of("land weather 0;place mine;place yours;road 0 1 loses 2;road 0 0 gains 1;road 1 1 gains 2;"
            + "road 1 0 loses 9;open : road < 3;");
        chance(x, 0, 1, 1);
        mean(x, 0, 0, 1);
        chance(x, 1, 9, 10);
        mean(x, 1, -1, 10);
        // below 0 are: lot 0 and then no lot 0 (9 of 100), lot 1 and then lot 0 (1), lying and then lot 0 (8)
        chance(x, 2, 41, 50);
        x.move(0);
        due("purse", x.purse(0), -2);
        chance(x, 0, 0, 1);
        mean(x, 0, -2, 1);
        chance(x, 1, 1, 10);
        mean(x, 1, -9, 5);
        chance(x, 2, 19, 100);
        mean(x, 2, -8, 5);
    }

    /** More roads than lots: the first ten; by weather, a road less before them. */
    private static void manyLots() {
        MeanRoads x = Check.of("land weather 0;place mine;" + "road 0 0 gains 10;".repeat(10)
            + "road 0 0 loses 99;".repeat(6) + "open : not road + 1 = weather;");
        chance(x, 5, 1, 1);
        mean(x, 5, 50, 1);
        x.weather(1);
        chance(x, 1, 9, 10);
        mean(x, 1, -9, 10);
        MeanRoads y = Check.of("land weather 0;place mine;road 0 0 loses 1;");
        chance(y, 5, 59049, 100000);
        mean(y, 5, -1, 2);
        mean(y, 4, -2, 5);
    }

    private static void wrongLots() {
        MeanRoads x = new MeanRoads();
        due("chance(6, 2): what first", x.chance(6, 2), -2);
        due("chance(0, -1)", x.chance(0, -1), -2);
        due("chance(6, 0)", x.chance(6, 0), -3);
        due("chance(-1, 1)", x.chance(-1, 1), -3);
        due("mean(6, 2): what first", x.mean(6, 2), Check.FAR - 2);
        due("mean(0, -1)", x.mean(0, -1), Check.FAR - 2);
        due("mean(6, 0)", x.mean(6, 0), Check.FAR - 3);
        due("mean(-1, 1)", x.mean(-1, 1), Check.FAR - 3);
    }
}
