/** Promises 8 to 16: move, moves, plan, plays, weather, undo, judge, perform, journey. */
public final class DeedsTest {
    private static final Check CHECK = new Check();
    private static final String LAND = "land weather 2;place mine;place yours;place mine;road 0 1 gains 3;"
        + "road 1 2 loses 5;road 0 2 gains 1;road 1 0 gains 7;open : not road = weather;";

    public static void main(String[] args) {
        moving();
        movingByPlan();
        planning();
        playing();
        weathers();
        undoing();
        judging();
        performing();
        journeys();
        journeyOfOneRoad();
        CHECK.end();
    }

    private static void due(String call, long got, long want) {
        CHECK.due(call, got, want);
    }

    private static void state(String when, MeanRoads x, int token, long purse, int moves, int undo) {
        due(when + ": token", x.count(3), token);
        due(when + ": purse", x.purse(0), purse);
        due(when + ": moves", x.count(4), moves);
        due(when + ": undo", x.count(7), undo);
    }

    private static void moving() {
        MeanRoads x = Check.of(LAND);
        due("move(-1)", x.move(-1), Check.FAR - 11);
        due("move(4)", x.move(4), Check.FAR - 11);
        due("move(16) where roads are open", x.move(16), Check.FAR - 11);
        due("move(17)", x.move(17), Check.FAR - 11);
        due("move(1) begins elsewhere", x.move(1), Check.FAR - 12);
        due("move(2) is not open", x.move(2), Check.FAR - 13);
        state("refused", x, 0, 0, 0, 0);
        due("move(0)", x.move(0), 3);
        due("move(2) elsewhere and not open", x.move(2), Check.FAR - 12);
        due("move(1)", x.move(1), -5);
        state("moved", x, 2, -2, 2, 2);
        due("move(0) elsewhere", x.move(0), Check.FAR - 12);
        due("move(16)", x.move(16), 0);
        state("stayed", x, 2, -2, 3, 3);
    }

    private static void movingByPlan() {
        MeanRoads x = Check.of(LAND);
        due("moves(0)", x.moves(0), Check.FAR - 3);
        due("moves(100)", x.moves(100), Check.FAR - 3);
        state("refused", x, 0, 0, 0, 0);
        due("moves(1)", x.moves(1), 3);
        due("moves(99)", x.moves(99), -5);
        state("gone", x, 2, -2, 100, 2);
        x = Check.of(LAND);
        x.plan(1, 3);
        x.plan(0, 2);
        due("plan of road 3; road 2 isn't open", x.moves(4), 20);
        x.weather(5);
        due("now it is", x.moves(1), 1);
        state("at 2", x, 2, 21, 5, 5);
    }

    private static void planning() {
        MeanRoads x = Check.of(LAND);
        due("plan(3, 0)", x.plan(3, 0), -11);
        due("plan(-1, -1)", x.plan(-1, -1), -11);
        due("plan(0, 4)", x.plan(0, 4), -11);
        due("plan(2, 16)", x.plan(2, 16), -11);
        due("plan(0, -2)", x.plan(0, -2), -11);
        due("plan(0, 1)", x.plan(0, 1), -12);
        due("none can be undone", x.count(7), 0);
        due("plan(0, 2), not open", x.plan(0, 2), -1);
        due("plan(0, 0)", x.plan(0, 0), 2);
        due("plan(0, -1)", x.plan(0, -1), 0);
        due("plan(0, -1) again", x.plan(0, -1), -1);
        due("four can be undone", x.count(7), 4);
        due("undo(2)", x.undo(2), 2);
        due("place(0, 1)", x.place(0, 1), 0);
    }

    private static void playing() {
        MeanRoads x = Check.of("land weather 0;place mine;place yours;place mine;road 0 0 gains 1;road 0 1 gains 0;"
            + "road 1 1 gains 2;road 1 0 gains 5;");
        due("plays(2)", x.plays(2), -2);
        due("plays(-1)", x.plays(-1), -2);
        x.plan(0, 0);
        // I can come to 1, where you stay for 2, or come back to me and lose 5
        due("plays(1)", x.plays(1), 1);
        due("place(0, 1)", x.place(0, 1), 1);
        due("place(1, 1) stays", x.place(1, 1), -1);
        due("place(2, 1)", x.place(2, 1), -1);
        due("plays(1) again", x.plays(1), 0);
        due("plays(0)", x.plays(0), 1);
        due("place(1, 1)", x.place(1, 1), 2);
        due("count(7)", x.count(7), 4);
        due("undo(3)", x.undo(3), 1);
        due("place(0, 1) again", x.place(0, 1), 0);
        x = new MeanRoads();
        due("plays(0) without places", x.plays(0), 0);
        due("it can be undone", x.count(7), 1);
        x = Check.of("land weather 0;place mine;road 0 0 gains 1;open : weather = 1;");
        x.plan(0, 0);
        due("plays(1), staying", x.plays(1), 1);
        due("none", x.place(0, 1), -1);
    }

    private static void weathers() {
        MeanRoads x = Check.of(LAND);
        due("weather(10)", x.weather(10), -11);
        due("weather(-1)", x.weather(-1), -11);
        due("weather(2)", x.weather(2), 2);
        due("weather(9)", x.weather(9), 2);
        due("count(2)", x.count(2), 9);
        due("count(7)", x.count(7), 2);
        due("road(2, 2)", x.road(2, 2), 1);
    }

    private static void undoing() {
        MeanRoads x = Check.of(LAND);
        due("undo(1) of nothing", x.undo(1), -3);
        x.moves(2);
        x.plan(0, 2);
        x.weather(7);
        state("before", x, 2, -2, 2, 3);
        due("undo(0)", x.undo(0), -3);
        due("undo(4)", x.undo(4), -3);
        due("undo(11)", x.undo(11), -3);
        due("undo(-1)", x.undo(-1), -3);
        due("undo(1)", x.undo(1), 2);
        due("weather is back", x.count(2), 2);
        due("undo(2)", x.undo(2), 0);
        state("back", x, 0, 0, 0, 0);
        due("plan is back", x.place(0, 1), -1);
        for (int i = 0; i < 12; i++) {
            x.weather(i % 10);
        }
        due("ten at most", x.count(7), 10);
        due("undo(10)", x.undo(10), 0);
        due("eldest are forgotten", x.count(2), 1);
        due("undo(1)", x.undo(1), -3);
    }

    private static void judged(MeanRoads x, String what, long place, long why, long token, long purse, long... deeds) {
        Check.fill(x, 1, deeds);
        due(what + ": place", x.judge(1, 0), place);
        due(what + ": why", x.judge(1, 1), why);
        due(what + ": token", x.judge(1, 2), token);
        due(what + ": purse", x.judge(1, 3), purse + 1000000);
    }

    private static void judging() {
        MeanRoads x = Check.of(LAND);
        due("judge(4, 0)", x.judge(4, 0), -2);
        due("judge(-1, 0)", x.judge(-1, 0), -2);
        due("judge(0, 4): what ahead of missing", x.judge(0, 4), -2);
        due("judge(0, -1)", x.judge(0, -1), -2);
        due("judge(0, 0)", x.judge(0, 0), -6);
        judged(x, "no deeds", -1, 0, 0, 0);
        judged(x, "moves", -1, 0, 2, -2, 0, 1, 16, 30);
        judged(x, "no such road", 1, 1, 1, 3, 0, 4);
        judged(x, "16 where roads are open", 0, 1, 0, 0, 16);
        judged(x, "elsewhere", 0, 2, 0, 0, 3, 0);
        judged(x, "not open", 0, 3, 0, 0, 2, 0);
        judged(x, "by weather 0 it is", -1, 0, 2, 1, 20, 2);
        judged(x, "weather 9", -1, 0, 2, 1, 29, 2);
        judged(x, "between", 0, 1, 0, 0, 17);
        judged(x, "19", 0, 1, 0, 0, 19);
        judged(x, "31", 0, 1, 0, 0, 31);
        judged(x, "999", 0, 1, 0, 0, 999);
        judged(x, "9000", 0, 1, 0, 0, 9000);
        judged(x, "-1", 0, 1, 0, 0, -1);
        judged(x, "far", 0, 1, 0, 0, Long.MIN_VALUE);
        judged(x, "2 to the 32", 0, 1, 0, 0, 1L << 32);
        judged(x, "plan of 1", -1, 0, 0, 10, 2003, 30, 30);
        judged(x, "plan taken back", -1, 0, 2, -2, 2003, 2999, 30, 30);
        judged(x, "plan: no such place", 0, 1, 0, 0, 4000);
        judged(x, "plan: no such road", 0, 1, 0, 0, 1004);
        judged(x, "plan: 16", 0, 1, 0, 0, 1016);
        judged(x, "plan: 998", 0, 1, 0, 0, 1998);
        judged(x, "plan: elsewhere", 0, 2, 0, 0, 1001);
        judged(x, "plan of place 7", 0, 1, 0, 0, 8999);
        state("judged as if", x, 0, 0, 0, 0);
        due("weather stays", x.count(2), 2);
        due("plan stays", x.place(1, 1), -1);
    }

    private static void performing() {
        MeanRoads x = Check.of(LAND);
        due("perform(4)", x.perform(4), -2);
        due("perform(-1)", x.perform(-1), -2);
        due("perform(0)", x.perform(0), -6);
        Check.fill(x, 0);
        due("no deeds", x.perform(0), 0);
        Check.fill(x, 0, 16, 0);
        due("first can't be", x.perform(0), 0);
        state("nothing", x, 0, 0, 0, 0);
        Check.fill(x, 0, 2003, 30, 25, 30, 2, 2, 30);
        due("till one can't be", x.perform(0), 5);
        state("five", x, 2, 11, 3, 1);
        due("weather", x.count(2), 5);
        due("undo(1)", x.undo(1), 0);
        state("as a whole", x, 0, 0, 0, 0);
        due("weather", x.count(2), 2);
        due("plan", x.place(1, 1), -1);
    }

    private static void journeys() {
        MeanRoads x = Check.of(LAND);
        due("journey(1, 0)", x.journey(1, 0), -3);
        due("journey(1, 41)", x.journey(1, 41), -3);
        for (int seed = -3; seed < 40; seed++) {
            MeanRoads a = Check.of(LAND);
            MeanRoads b = Check.of(LAND);
            int could = 0;
            int v = seed;
            for (int i = 0; i < 40; i++) {
                v = 1103515245 * v + 12345;
                int kind = (v >>> 16) % 6;
                long deed = 30;
                if (kind != 3 && kind != 4) {
                    v = 1103515245 * v + 12345;
                    deed = kind == 5 ? 20 + (v >>> 16) % 10 : (v >>> 16) % 17;
                }
                Check.fill(b, 0, deed);
                could += b.perform(0);
            }
            due("journey(" + seed + ", 40)", a.journey(seed, 40), could);
            state("journey " + seed, a, b.count(3), b.purse(0), b.count(4), 1);
            due("weather " + seed, a.count(2), b.count(2));
            due("undo(1)", a.undo(1), 0);
            state("undone", a, 0, 0, 0, 0);
        }
    }

    /** The first draws by seed 0, reckoned by hand. */
    private static void journeyOfOneRoad() {
        MeanRoads x = Check.of("land weather 0;place mine;road 0 0 gains 1;");
        // 12345: draw 0, a road: 3554416254: draw 54236, road 6. 2802067423: draw 42756, a road:
        // 3596950572: draw 54885, road 9
        due("journey(0, 2)", x.journey(0, 2), 0);
        due("nothing to undo", x.count(7), 0);
        x = Check.of("land weather 0;place mine;" + "road 0 0 gains 1;".repeat(7));
        due("road 6 can be", x.journey(0, 2), 1);
        state("road 6", x, 0, 1, 1, 1);
    }
}
