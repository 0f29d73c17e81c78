/** The bounds of promises 33 to 39: rows of moves and their sums, weathers by pay, chances and means. */
public final class RowBoundsTest {
    private static final Check CHECK = new Check();
    private static final long FAR = Check.FAR;

    public static void main(String[] args) {
        rowsZeroToSix();
        noMoves();
        rowsAtTheEdges();
        mostRows();
        rowsByStaying();
        rowsFromNowOn();
        sumsAtEachPlace();
        mostSums();
        oneToEightNumbers();
        roadsOfPaid();
        payOfPaid();
        eachRoadOfPaid();
        paidInEachSort();
        weathersAsBits();
        askedFor();
        askedForOneWeather();
        askedForNone();
        lotsZeroToFive();
        justTenLots();
        notBelowNothing();
        meanOfBothSigns();
        lotsLieWithoutRoads();
        CHECK.end();
    }

    private static void due(String call, long got, long want) {
        CHECK.due(call, got, want);
    }

    private static String loops(String... pays) {
        StringBuilder land = new StringBuilder("land weather 0;place mine;");
        for (String pay : pays) {
            land.append("road 0 0 ").append(pay).append(';');
        }
        return land.toString();
    }

    private static void rowsZeroToSix() {
        String land = loops("gains 1");
        CHECK.bounds("rows", 0, 6, -3, v -> Check.of(land).rows(v, 0));
        CHECK.bounds("sums", 0, 6, -3, v -> Check.of(land).sums(v));
        CHECK.bounds("sumsAt", 0, 6, -3, v -> Check.of(land).sumsAt(0, v));
        for (int n = 0; n <= 6; n++) {
            due("rows(" + n + ", " + n + ")", Check.of(land).rows(n, n), 1);
            due("rows(" + n + ", " + (n + 1) + ")", Check.of(land).rows(n, n + 1), 0);
            due("rows(" + n + ", " + (n - 1) + ")", Check.of(land).rows(n, n - 1), 0);
            due("sums(" + n + ")", Check.of(land).sums(n), 1);
        }
    }

    private static void noMoves() {
        MeanRoads x = Check.of("land weather 0;place mine;place mine;road 0 1 gains 1;road 0 0 loses 1;");
        due("rows(0, 0)", x.rows(0, 0), 1);
        due("rows(0, 1)", x.rows(0, 1), 0);
        due("rows(0, -1)", x.rows(0, -1), 0);
        due("sums(0)", x.sums(0), 1);
        due("sumsAt(0, 0)", x.sumsAt(0, 0), 1);
        due("sumsAt(1, 0)", x.sumsAt(1, 0), 0);
    }

    private static void rowsAtTheEdges() {
        for (int n = 1; n <= 6; n++) {
            MeanRoads x = Check.of(loops("gains 99", "loses 99"));
            int most = 99 * n;
            int[] paid = {-most - 1, -most, -most + 1, -most + 198, most - 198, most - 1, most, most + 1};
            int[] want = {0, 1, 0, n, n, 0, 1, 0};
            for (int i = 0; i < paid.length; i++) {
                due("rows(" + n + ", " + paid[i] + ")", x.rows(n, paid[i]), want[i]);
            }
            due("rows of the least int", x.rows(n, Integer.MIN_VALUE), 0);
            due("rows of the greatest int", x.rows(n, Integer.MAX_VALUE), 0);
            due("sums(" + n + ")", x.sums(n), n + 1);
            due("gains alone", Check.of(loops("gains 99")).rows(n, most), 1);
            due("losses alone", Check.of(loops("loses 99")).rows(n, -most), 1);
        }
    }

    private static void mostRows() {
        String[] sixteen = new String[16];
        java.util.Arrays.fill(sixteen, "gains 0");
        int all = 1;
        for (int n = 0; n <= 6; n++) {
            due("rows(" + n + ", 0) of sixteen", Check.of(loops(sixteen)).rows(n, 0), all);
            all *= 16;
        }
    }

    private static void rowsByStaying() {
        MeanRoads x = Check.of("land weather 0;place mine;place yours;road 0 1 gains 4;road 0 1 gains 4;");
        due("then staying", x.rows(6, 4), 2);
        due("sums", x.sums(6), 1);
        due("at 1", x.sumsAt(1, 6), 1);
        due("at 0", x.sumsAt(0, 6), 0);
        due("staying alone", new MeanRoads().rows(6, 0), 1);
        MeanRoads y = Check.of("land weather 0;place mine;road 0 0 gains 4;open : 1 = 2;");
        due("a road that isn't open", y.rows(2, 0), 1);
        due("it pays nothing", y.rows(2, 8), 0);
    }

    /** What is paid in them, not the purse. */
    private static void rowsFromNowOn() {
        MeanRoads x = Check.of("land weather 0;place mine;place yours;road 0 1 gains 4;road 1 0 gains 1;");
        x.moves(3);
        due("purse", x.purse(0), 9);
        due("rows(1, 1)", x.rows(1, 1), 1);
        due("rows(1, 10)", x.rows(1, 10), 0);
        due("rows(0, 0)", x.rows(0, 0), 1);
        due("sumsAt(0, 1)", x.sumsAt(0, 1), 1);
        due("sumsAt(1, 1)", x.sumsAt(1, 1), 0);
    }

    private static void sumsAtEachPlace() {
        StringBuilder land = new StringBuilder("land weather 0;" + "place yours;".repeat(8));
        for (int r = 0; r < 16; r++) {
            land.append("road 0 ").append(r / 2).append(" gains ").append(r % 2).append(';');
        }
        MeanRoads x = Check.of(land.toString());
        for (int p = 0; p < 8; p++) {
            due("sumsAt(" + p + ", 1)", x.sumsAt(p, 1), 2);
        }
        due("sums(1)", x.sums(1), 2);
        // behind 6: at 0 the sums 0 to 6; at others, too, by coming there in the last or earlier
        due("sumsAt(0, 6)", x.sumsAt(0, 6), 7);
        due("sumsAt(7, 6)", x.sumsAt(7, 6), 7);
        due("sums(6)", x.sums(6), 7);
    }

    /** Pays 1, 7, 49 make sums that are unlike by how many of each there are. */
    private static void mostSums() {
        due("1 7 49", Check.of(loops("gains 1", "gains 7", "gains 49")).sums(6), 28);
        due("all from 0 to 6 * 15", Check.of(loops("gains 0", "gains 1", "gains 2", "gains 3", "gains 4", "gains 5", "gains 6",
            "gains 7", "gains 8", "gains 9", "gains 10", "gains 11", "gains 12", "gains 13", "gains 14", "gains 15")).sums(6), 91);
        due("from -594 to 594 by 198", Check.of(loops("gains 99", "loses 99")).sums(6), 7);
        due("of both signs", Check.of(loops("gains 99", "loses 99", "gains 0")).sums(6), 13);
    }

    private static void oneToEightNumbers() {
        for (int n = 0; n <= 40; n++) {
            MeanRoads x = Check.of(loops("gains 5"));
            x.numbers(1, 3, n);
            for (int i = 0; i < n; i++) {
                x.write(1, i, 105);
            }
            due("weathers of " + n, x.weathers(1), n >= 1 && n <= 8 ? 1023 : -4);
            due("ask of " + n, x.ask(1), n >= 1 && n <= 8 ? 0 : -4);
        }
    }

    private static void roadsOfPaid() {
        for (int roads = 0; roads <= 16; roads++) {
            String[] pays = new String[roads];
            java.util.Arrays.fill(pays, "gains 5");
            MeanRoads x = Check.of(loops(pays));
            for (int r = 0; r <= 17; r++) {
                Check.fill(x, 0, 1000 * r + 105);
                due("road " + r + " of " + roads, x.weathers(0), r < roads ? 1023 : -3);
                due("ask, road " + r + " of " + roads, x.ask(0), r < roads ? 0 : -3);
            }
            Check.fill(x, 0, -895);
            due("no road is below 0", x.weathers(0), -3);
        }
    }

    private static void payOfPaid() {
        for (int v = -2; v <= 1002; v++) {
            MeanRoads x = Check.of(loops("gains 99", "loses 99"));
            Check.fill(x, 0, v);
            int want = v >= 1 && v <= 199 ? v == 199 ? 1023 : 0 : v == 1001 ? 1023 : v == 1002 ? 0 : -3;
            due("weathers of " + v, x.weathers(0), want);
            due("ask of " + v, x.ask(0), want == 0 ? -1 : want < 0 ? -3 : 0);
        }
        MeanRoads x = Check.of(loops("gains 0"));
        Check.fill(x, 0, 100);
        due("paid 0", x.weathers(0), 1023);
        long[] far = {Long.MIN_VALUE, Long.MAX_VALUE, 1L << 32, (1L << 32) + 100, -100, -900};
        for (long v : far) {
            Check.fill(x, 0, v);
            due("weathers of " + v, x.weathers(0), -3);
        }
    }

    /** Each road pays otherwise, the last one the least, so that its number is next to the thousand. */
    private static void eachRoadOfPaid() {
        for (int roads = 1; roads <= 16; roads++) {
            MeanRoads x = Check.of(loops(new String[roads]).replace("null", "gains 0") + "pays : 0 - 99 + (" + (roads - 1)
                + " - road) * 13;");
            for (int r = 0; r < roads; r++) {
                long pay = Math.min(99, -99 + (roads - 1 - r) * 13);
                Check.fill(x, 0, 1000 * r + 100 + pay);
                due("road " + r + " of " + roads, x.weathers(0), 1023);
                Check.fill(x, 0, 1000 * r + 101 + pay);
                due("one more than it pays", x.weathers(0), pay == 99 ? -3 : 0);
                Check.fill(x, 0, 1000 * r + 99 + pay);
                due("one less than it pays", x.weathers(0), pay == -99 ? -3 : 0);
            }
            Check.fill(x, 0, 1000 * roads + 1);
            due("behind the last road, the least", x.weathers(0), -3);
            Check.fill(x, 0, 1000 * roads + 199);
            due("behind the last road, the most", x.weathers(0), -3);
        }
    }

    private static void paidInEachSort() {
        MeanRoads x = Check.of(loops("gains 5", "gains 27"));
        for (int sort = 0; sort < 4; sort++) {
            x.numbers(0, sort, 1);
            x.write(0, 0, 105);
            due("105 of sort " + sort, x.weathers(0), 1023);
            x.write(0, 0, 1127);
            due("1127 of sort " + sort, x.weathers(0), sort == 0 ? 0 : 1023);
            x.write(0, 0, 128);
            due("128 of sort " + sort, x.weathers(0), sort == 0 ? -3 : 0);
        }
    }

    private static void weathersAsBits() {
        MeanRoads x = Check.of(loops("gains 1") + "pays : weather * 11;open : 1 = 2;");
        for (int w = 0; w <= 9; w++) {
            Check.fill(x, 0, 100 + 11 * w);
            due("weather " + w + " alone", x.weathers(0), 1 << w);
        }
        Check.fill(x, 0, 100, 111);
        due("none by two", x.weathers(0), 0);
        Check.fill(x, 0, 101);
        due("none by one", x.weathers(0), 0);
    }

    private static void askedFor() {
        MeanRoads x = Check.of(loops("gains 0", "gains 1", "gains 2", "gains 3", "gains 4") + "pays : if road = 0 then 7 else "
            + "if road = 1 then if weather < 5 then 1 else 2 end else if road = 2 then if weather < 4 then 1 else 2 end "
            + "else if road = 3 then weather else 9 - weather end end end end;");
        Check.fill(x, 0, 107);
        due("the first of those by 1", x.ask(0), 3);
        MeanRoads y = Check.of(loops("gains 0", "gains 1", "gains 2") + "pays : if road = 0 then 7 else "
            + "if road = 1 then if weather < 4 then 1 else 2 end else if weather < 5 then 1 else 2 end end end;");
        Check.fill(y, 0, 107);
        due("by 5, not by 6", y.ask(0), 2);
        Check.fill(y, 0, 1101);
        due("of 0 to 3 none tells: the first", y.ask(0), 0);
        Check.fill(y, 0, 1102, 2101);
        due("weather 4 alone", y.weathers(0), 16);
        due("one alone: the first", y.ask(0), 0);
    }

    /** By one weather alone no road tells more than another. */
    private static void askedForOneWeather() {
        MeanRoads x = Check.of(loops("gains 1", "gains 2") + "pays : if road = 0 then 5 else weather end;");
        for (int w = 0; w <= 9; w++) {
            Check.fill(x, 0, 1100 + w);
            due("weather " + w + " alone", x.weathers(0), 1 << w);
            due("ask by weather " + w + " alone", x.ask(0), 0);
        }
        Check.fill(x, 0, 105);
        due("by all the one that tells them apart", x.ask(0), 1);
    }

    private static void askedForNone() {
        MeanRoads x = Check.of(loops("gains 5"));
        Check.fill(x, 0, 106);
        due("there are none", x.ask(0), -1);
        MeanRoads y = new MeanRoads();
        Check.fill(y, 0, 100);
        due("no roads: no road's number", y.ask(0), -3);
        Check.fill(y, 0);
        due("no roads, no numbers", y.ask(0), -4);
    }

    private static void fraction(String what, long above, long below, long wantAbove, long wantBelow) {
        due(what + ", above", above, wantAbove);
        due(what + ", below", below, wantBelow);
    }

    private static void lotsZeroToFive() {
        String land = loops("loses 1");
        CHECK.bounds("chance", 0, 5, -3, v -> Check.of(land).chance(v, 0));
        CHECK.bounds("chance, what", 0, 1, -2, v -> Check.of(land).chance(0, v));
        CHECK.bounds("mean", 0, 5, FAR - 3, v -> Check.of(land).mean(v, 0));
        CHECK.bounds("mean, what", 0, 1, FAR - 2, v -> Check.of(land).mean(0, v));
        MeanRoads x = Check.of(land);
        long[] nine = {1, 9, 81, 729, 6561, 59049};
        long[] ten = {1, 10, 100, 1000, 10000, 100000};
        long[][] mean = {{0, 1}, {-1, 10}, {-1, 5}, {-3, 10}, {-2, 5}, {-1, 2}};
        for (int n = 0; n <= 5; n++) {
            fraction("chance of " + n, x.chance(n, 0), x.chance(n, 1), nine[n], ten[n]);
            fraction("mean of " + n, x.mean(n, 0), x.mean(n, 1), mean[n][0], mean[n][1]);
        }
    }

    /** k roads gain 10 each; one more loses 99. */
    private static void justTenLots() {
        for (int k = 0; k <= 15; k++) {
            String[] pays = new String[k + 1];
            java.util.Arrays.fill(pays, "gains 10");
            pays[k] = "loses 99";
            MeanRoads x = Check.of(loops(pays));
            boolean drawn = k < 10;
            fraction("chance, " + k, x.chance(1, 0), x.chance(1, 1), drawn ? 9 : 1, drawn ? 10 : 1);
            long sum = 10 * Math.min(k, 10) - (drawn ? 99 : 0);
            long by = sum == 0 ? 10 : sum % 10 == 0 ? 10 : sum % 5 == 0 ? 5 : sum % 2 == 0 ? 2 : 1;
            fraction("mean, " + k, x.mean(1, 0), x.mean(1, 1), sum / by, 10 / by);
        }
        // only open ones are counted: by weather 1 road 0 is shut, so that the eleventh is the tenth
        String[] eleven = new String[11];
        java.util.Arrays.fill(eleven, "gains 0");
        eleven[10] = "loses 1";
        MeanRoads x = Check.of(loops(eleven) + "open : not road = weather - 1;");
        due("the eleventh isn't drawn", x.chance(1, 0), 1);
        x.weather(1);
        fraction("the tenth open one is", x.chance(1, 0), x.chance(1, 1), 9, 10);
    }

    private static void notBelowNothing() {
        MeanRoads x = Check.of(loops("gains 1") + "pays : if weather = 1 then 1 else 0 - 1 end;");
        fraction("0 is not below", x.chance(0, 0), x.chance(0, 1), 1, 1);
        x.weather(1);
        x.move(0);
        x.weather(0);
        fraction("1, then 0", x.chance(1, 0), x.chance(1, 1), 1, 1);
        fraction("1, then -1 by two", x.chance(2, 0), x.chance(2, 1), 99, 100);
        x.moves(2);
        due("purse", x.purse(0), -1);
        fraction("-1 is below", x.chance(0, 0), x.chance(0, 1), 0, 1);
        fraction("-1 and lost more", x.chance(5, 0), x.chance(5, 1), 0, 1);
        x.weather(1);
        fraction("-1, then 0", x.chance(1, 0), x.chance(1, 1), 1, 10);
        fraction("-1, then 0 or 1", x.chance(2, 0), x.chance(2, 1), 19, 100);
    }

    private static void meanOfBothSigns() {
        MeanRoads x = Check.of(loops("gains 99", "loses 99"));
        fraction("0", x.mean(5, 0), x.mean(5, 1), 0, 1);
        x.move(0);
        fraction("99", x.mean(5, 0), x.mean(5, 1), 99, 1);
        MeanRoads y = Check.of(loops("loses 99"));
        y.moves(99);
        fraction("-9801", y.mean(0, 0), y.mean(0, 1), -9801, 1);
        fraction("-9801 and -9.9 more", y.mean(1, 0), y.mean(1, 1), -98109, 10);
        fraction("-9801 and -49.5 more", y.mean(5, 0), y.mean(5, 1), -19701, 2);
        fraction("not at all", y.chance(5, 0), y.chance(5, 1), 0, 1);
    }

    private static void lotsLieWithoutRoads() {
        MeanRoads x = new MeanRoads();
        for (int n = 0; n <= 5; n++) {
            fraction("chance of " + n, x.chance(n, 0), x.chance(n, 1), 1, 1);
            fraction("mean of " + n, x.mean(n, 0), x.mean(n, 1), 0, 1);
        }
        MeanRoads y = Check.of("land weather 0;place mine;place mine;road 0 1 gains 1;road 1 0 loses 3;");
        fraction("two of a hundred lose", y.chance(2, 0), y.chance(2, 1), 99, 100);
        // lot 0 twice: -2; lot 0 once: 1, of nine and nine
        fraction("mean of two", y.mean(2, 0), y.mean(2, 1), 4, 25);
    }
}
