/** Promises 29 to 32: at, purse, round, paid. */
public final class GoingTest {
    private static final Check CHECK = new Check();
    private static final long MOST = 1_000_000_000_000_000L;

    public static void main(String[] args) {
        lasso();
        losing();
        staying();
        longest();
        wrong();
        CHECK.end();
    }

    private static void due(String call, long got, long want) {
        CHECK.due(call, got, want);
    }

    /** 0 -> 1 -> 2 -> 3 -> 4 -> 2. */
    private static void lasso() {
        MeanRoads x = Check.of("land weather 0;place mine;place yours;place mine;place mine;place yours;"
            + "road 0 1 loses 5;road 1 2 loses 6;road 2 3 gains 4;road 3 4 loses 9;road 4 2 gains 7;road 1 0 gains 9;");
        int[] token = {0, 1, 2, 3, 4, 2, 3, 4, 2};
        int[] purse = {0, -5, -11, -7, -16, -9, -5, -14, -7};
        for (int n = 0; n < token.length; n++) {
            due("at(" + n + ")", x.at(n), token[n]);
            due("purse(" + n + ")", x.purse(n), purse[n]);
        }
        due("round(0)", x.round(0), 2);
        due("round(1)", x.round(1), 3);
        due("at most", x.at(MOST), 2 + (int) ((MOST - 2) % 3));
        due("purse(2 + 3 * 10^14)", x.purse(2 + 300_000_000_000_000L), -11 + 200_000_000_000_000L);
        due("paid(0)", x.paid(0), 0);
        due("paid(1)", x.paid(1), -5);
        due("paid(3)", x.paid(3), -11);
        due("paid(4)", x.paid(4), -16);
        due("paid(9999)", x.paid(9999), -16);
        due("nothing is done", x.count(4) + x.count(7), 0);
        x.moves(3);
        due("purse(1) from now on", x.purse(1), -16);
        due("round(0) from now on", x.round(0), 0);
        due("paid(5) from now on", x.paid(5), -16);
        x.plan(1, 5);
        x.undo(2);
        x.plan(1, 5);
        due("round(1) by another plan", x.round(1), 2);
        due("purse(7) by another plan", x.purse(7), 7);
    }

    private static void losing() {
        MeanRoads x = Check.of("land weather 0;place mine;place mine;road 0 1 loses 99;road 1 0 gains 98;");
        due("purse(most)", x.purse(MOST), -MOST / 2);
        due("paid(9998)", x.paid(9998), -4999 - 98);
        due("paid(9999)", x.paid(9999), -5098);
        due("paid(1)", x.paid(1), -99);
        due("paid(2)", x.paid(2), -99);
        due("paid(3)", x.paid(3), -100);
        x.move(0);
        due("paid(0)", x.paid(0), -99);
        due("purse(most - 1)", x.purse(MOST - 1), -MOST / 2);
    }

    private static void staying() {
        MeanRoads x = Check.of("land weather 0;place mine;place mine;road 0 1 gains 5;");
        due("round(0)", x.round(0), 1);
        due("round(1)", x.round(1), 1);
        due("purse(most)", x.purse(MOST), 5);
        due("paid(9999)", x.paid(9999), 0);
    }

    /** Eight places in a row, from the last of which one comes back to each in turn. */
    private static void longest() {
        for (int back = 0; back < 8; back++) {
            StringBuilder land = new StringBuilder("land weather 0;" + "place mine;".repeat(8));
            for (int i = 0; i < 8; i++) {
                land.append("road ").append(i).append(' ').append(i < 7 ? i + 1 : back).append(" loses 1;");
            }
            MeanRoads x = Check.of(land.toString());
            due("round(0) back to " + back, x.round(0), back);
            due("round(1) back to " + back, x.round(1), 8 - back);
            for (int n = 0; n < 30; n++) {
                due("at(" + n + ") back to " + back, x.at(n), n < 8 ? n : back + (n - back) % (8 - back));
                due("purse(" + n + ")", x.purse(n), -n);
                due("paid(" + n + ")", Check.of(land.toString()).paid(n), -n);
            }
            x.numbers(0, 0, 40);
            x.lists(0);
            due("all ways can be", x.judge(0, 0), -1);
            due("where they lead", x.judge(0, 2), back + (40 - back) % (8 - back));
        }
    }

    private static void wrong() {
        MeanRoads x = new MeanRoads();
        due("at(-1)", x.at(-1), -3);
        due("at(most + 1)", x.at(MOST + 1), -3);
        due("purse(-1)", x.purse(-1), Check.FAR - 3);
        due("purse(most + 1)", x.purse(MOST + 1), Check.FAR - 3);
        due("round(2)", x.round(2), -2);
        due("round(-1)", x.round(-1), -2);
        due("paid(-1)", x.paid(-1), Check.FAR - 3);
        due("paid(10000)", x.paid(10000), Check.FAR - 3);
    }
}
