/** The bounds of promises 29 to 32: moves by plan very many times, when they come round, the least purse. */
public final class GoingBoundsTest {
    private static final Check CHECK = new Check();
    private static final long FAR = Check.FAR;
    private static final long MOST = 1_000_000_000_000_000L;

    public static void main(String[] args) {
        goingZeroToMost();
        goingByOne();
        purseAtMost();
        purseFromNowOn();
        roundOfEachLength();
        roundByStaying();
        paidZeroTo9999();
        paidIsLeast();
        paidOfLosing();
        paidBeginsNow();
        CHECK.end();
    }

    private static void due(String call, long got, long want) {
        CHECK.due(call, got, want);
    }

    /** A way in of so many roads, then a ring of so many, all of which pay so much. */
    private static String lasso(int before, int ring, int pay) {
        StringBuilder land = new StringBuilder("land weather 0;" + "place mine;".repeat(before + ring));
        for (int i = 0; i < before + ring; i++) {
            land.append("road ").append(i).append(' ').append(i + 1 < before + ring ? i + 1 : before)
                .append(pay < 0 ? " loses " : " gains ").append(Math.abs(pay)).append(';');
        }
        return land.toString();
    }

    private static void goingZeroToMost() {
        MeanRoads x = Check.of(lasso(2, 3, 1));
        long[] wrong = {-1, MOST + 1, Long.MIN_VALUE, Long.MAX_VALUE, Integer.MIN_VALUE};
        for (long n : wrong) {
            due("at(" + n + ")", x.at(n), -3);
            due("purse(" + n + ")", x.purse(n), FAR - 3);
        }
        due("at(0)", x.at(0), 0);
        due("purse(0)", x.purse(0), 0);
        due("at(the most)", x.at(MOST), 2 + (MOST - 2) % 3);
        due("purse(the most)", x.purse(MOST), MOST);
        due("at(one fewer)", x.at(MOST - 1), 2 + (MOST - 3) % 3);
        due("purse(one fewer)", x.purse(MOST - 1), MOST - 1);
        due("at(2 to the 32)", x.at(1L << 32), 2 + ((1L << 32) - 2) % 3);
        due("purse(2 to the 31)", x.purse(1L << 31), 1L << 31);
    }

    private static void goingByOne() {
        for (int before = 0; before < 8; before++) {
            for (int ring = 1; before + ring <= 8; ring++) {
                MeanRoads x = Check.of(lasso(before, ring, -1));
                for (int n = 0; n < 40; n++) {
                    due("at(" + n + ")", x.at(n), n < before ? n : before + (n - before) % ring);
                    due("purse(" + n + ")", x.purse(n), -n);
                }
            }
        }
    }

    private static void purseAtMost() {
        due("99 each", Check.of(lasso(0, 1, 99)).purse(MOST), 99 * MOST);
        due("-99 each", Check.of(lasso(7, 1, -99)).purse(MOST), -99 * MOST);
        due("0 each", Check.of(lasso(3, 5, 0)).purse(MOST), 0);
        MeanRoads x = Check.of(lasso(0, 8, 99));
        x.moves(99);
        due("and what there is", x.purse(MOST), 99 * MOST + 9801);
    }

    private static void purseFromNowOn() {
        MeanRoads x = Check.of(lasso(2, 2, 5));
        x.moves(3);
        due("at(0)", x.at(0), 3);
        due("purse(0)", x.purse(0), 15);
        due("at(1)", x.at(1), 2);
        due("purse(1)", x.purse(1), 20);
        due("nothing is done", x.count(4), 3);
    }

    private static void roundOfEachLength() {
        CHECK.bounds("round", 0, 1, -2, v -> Check.of(lasso(1, 2, 1)).round(v));
        for (int before = 0; before < 8; before++) {
            for (int ring = 1; before + ring <= 8; ring++) {
                MeanRoads x = Check.of(lasso(before, ring, 1));
                due("round(0)", x.round(0), before);
                due("round(1)", x.round(1), ring);
                x.moves(before + 1);
                due("round(0) on the ring", x.round(0), 0);
                due("round(1) on the ring", x.round(1), ring);
            }
        }
    }

    private static void roundByStaying() {
        due("a new object, round(0)", new MeanRoads().round(0), 0);
        due("a new object, round(1)", new MeanRoads().round(1), 1);
        StringBuilder land = new StringBuilder("land weather 0;" + "place mine;".repeat(8));
        for (int i = 0; i < 7; i++) {
            land.append("road ").append(i).append(' ').append(i + 1).append(" gains 1;");
        }
        MeanRoads x = Check.of(land.toString());
        due("seven, then staying, round(0)", x.round(0), 7);
        due("seven, then staying, round(1)", x.round(1), 1);
        due("purse of the most", x.purse(MOST), 7);
        due("at the most", x.at(MOST), 7);
    }

    private static void paidZeroTo9999() {
        CHECK.bounds("paid", 0, 9999, FAR - 3, v -> Check.of(lasso(1, 2, 1)).paid(v));
        MeanRoads x = Check.of(lasso(0, 1, -99));
        due("paid(0)", x.paid(0), 0);
        due("paid(1)", x.paid(1), -99);
        due("paid(9998)", x.paid(9998), -99 * 9998);
        due("paid(9999)", x.paid(9999), -99 * 9999);
        due("gaining: the least is now", Check.of(lasso(0, 1, 99)).paid(9999), 0);
    }

    /** Held against the purse behind each number of moves. */
    private static void paidIsLeast() {
        String[] lands = {"road 0 1 gains 5;road 1 2 gains 3;road 2 1 loses 4;", "road 0 1 loses 5;road 1 2 gains 3;road 2 1 gains 4;",
            "road 0 1 gains 2;road 1 2 loses 9;road 2 0 gains 8;", "road 0 1 loses 9;road 1 2 gains 9;road 2 0 loses 1;",
            "road 0 0 loses 1;", "road 0 1 loses 4;road 1 2 loses 4;"};
        for (String roads : lands) {
            MeanRoads x = Check.of("land weather 0;place mine;place mine;place mine;" + roads);
            long least = 0;
            for (int n = 0; n <= 60; n++) {
                least = Math.min(least, x.purse(n));
                due("paid(" + n + ") of " + roads, x.paid(n), least);
            }
        }
    }

    /** 5, then 3 and -4 by turns: behind 1 + 2k moves 5 - k, behind 2 + 2k moves 8 - k. */
    private static void paidOfLosing() {
        MeanRoads x = Check.of("land weather 0;place mine;place mine;place mine;road 0 1 gains 5;road 1 2 gains 3;road 2 1 loses 4;");
        due("paid(11)", x.paid(11), 0);
        due("paid(12)", x.paid(12), 0);
        due("paid(13)", x.paid(13), -1);
        due("paid(9997)", x.paid(9997), -4993);
        due("paid(9998)", x.paid(9998), -4993);
        due("paid(9999)", x.paid(9999), -4994);
    }

    private static void paidBeginsNow() {
        MeanRoads x = Check.of(lasso(0, 1, -2));
        x.moves(10);
        due("paid(0) is the purse", x.paid(0), -20);
        due("paid(1)", x.paid(1), -22);
        MeanRoads y = Check.of(lasso(0, 1, 2));
        y.moves(10);
        due("what was before doesn't count", y.paid(9999), 20);
    }
}
