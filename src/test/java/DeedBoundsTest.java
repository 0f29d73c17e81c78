/** The bounds of promises 5 to 16: places, roads, moves, plans, weathers, undoing, told deeds, journeys. */
public final class DeedBoundsTest {
    private static final Check CHECK = new Check();
    private static final long FAR = Check.FAR;
    private static final int NONE = MeanRoads.NONE;

    public static void main(String[] args) {
        placesOfEachNumber();
        roadsOfEachNumber();
        whatOfPlaces();
        whatOfRoads();
        moveAlongEachRoad();
        stayingJustWithoutOpenRoads();
        whyNotInOrder();
        movesByPlanAreOneToNinetyNine();
        movesPayAtMost();
        planOfEachRoad();
        wayByPlan();
        planIsLeftWhereItIsNotOpen();
        playsCountsOthers();
        playsWithoutPlaces();
        weathersZeroToNine();
        eachCallThatDidSome();
        undoOneToTen();
        eldestAreForgotten();
        undoBringsBackAll();
        deedsOfEachNumber();
        planDeedsOfEachPlace();
        deedsOfEachSort();
        judgeTellsTheFirst();
        emptyAndFullTrays();
        performedTillOneCannot();
        journeyIsOneToForty();
        journeyOfNothing();
        purseOfJudge();
        CHECK.end();
    }

    private static void due(String call, long got, long want) {
        CHECK.due(call, got, want);
    }

    private static String land(int places, int roads) {
        return "land weather 0;" + "place mine;".repeat(places) + "road 0 0 gains 1;".repeat(roads);
    }

    private static void placesOfEachNumber() {
        for (int n = 1; n <= 8; n++) {
            int last = n - 1;
            String land = land(n, 1);
            CHECK.bounds("place", 0, last, -2, v -> Check.of(land).place(v, 0));
            CHECK.bounds("plan", 0, last, -11, v -> Check.of(land).plan(v, NONE));
            CHECK.bounds("ring", 0, last, FAR - 2, v -> Check.of(land).ring(v, 0, 0));
            CHECK.bounds("reach", 0, last, -2, v -> Check.of(land).reach(v));
            CHECK.bounds("worth", 0, last, FAR - 2, v -> Check.of(land).worth(v, 0));
            CHECK.bounds("atLeast", 0, last, -2, v -> Check.of(land).atLeast(v, 0, 1));
            CHECK.bounds("best", 0, last, -2, v -> Check.of(land).best(v));
            CHECK.bounds("secures", 0, last, FAR - 2, v -> Check.of(land).secures(1, v, 0));
            CHECK.bounds("plans", 0, last, -2, v -> Check.of(land).plans(1, v));
            CHECK.bounds("energy", 0, last, -2, v -> Check.of(land).energy(v));
            CHECK.bounds("sumsAt", 0, last, -2, v -> Check.of(land).sumsAt(v, 0));
        }
    }

    private static void roadsOfEachNumber() {
        for (int n = 1; n <= 16; n++) {
            int last = n - 1;
            String land = land(1, n);
            CHECK.bounds("road", 0, last, -2, v -> Check.of(land).road(v, 0));
            CHECK.bounds("pay", 0, last, FAR - 2, v -> Check.of(land).pay(v));
            CHECK.bounds("move", 0, last, FAR - 11, v -> Check.of(land).move(v));
            // NONE is a plan, too
            CHECK.bounds("plan", -1, last, -11, v -> Check.of(land).plan(0, v));
        }
    }

    private static void whatOfPlaces() {
        CHECK.bounds("place(0, what)", 0, 3, -2, v -> Check.of(land(1, 1)).place(0, v));
        MeanRoads x = Check.of("land weather 0;place yours;place mine;" + "road 1 0 gains 1;".repeat(16));
        due("yours", x.place(0, 0), 0);
        due("mine", x.place(1, 0), 1);
        due("no plan", x.place(1, 1), NONE);
        due("no open roads", x.place(0, 2), 0);
        due("sixteen open roads", x.place(1, 2), 16);
        due("way by plan: staying", x.place(0, 3), 16);
        due("way by plan: the first", x.place(1, 3), 0);
        x.plan(1, 15);
        due("plan", x.place(1, 1), 15);
        due("way by plan: the last", x.place(1, 3), 15);
    }

    private static void whatOfRoads() {
        CHECK.bounds("road(0, what)", 0, 2, -2, v -> Check.of(land(1, 1)).road(0, v));
        MeanRoads x = Check.of("land weather 0;" + "place yours;".repeat(8) + "road 7 0 gains 1;road 0 7 gains 1;open : from = 7;");
        due("from 7", x.road(0, 0), 7);
        due("to 0", x.road(0, 1), 0);
        due("open", x.road(0, 2), 1);
        due("from 0", x.road(1, 0), 0);
        due("to 7", x.road(1, 1), 7);
        due("not open", x.road(1, 2), 0);
    }

    private static void moveAlongEachRoad() {
        StringBuilder land = new StringBuilder("land weather 0;" + "place mine;".repeat(8));
        for (int r = 0; r < 16; r++) {
            land.append("road 0 ").append(r / 2).append(" gains ").append(r).append(';');
        }
        for (int r = 0; r < 16; r++) {
            MeanRoads x = Check.of(land.toString());
            due("move(" + r + ")", x.move(r), r);
            due("where it lies", x.count(3), r / 2);
            due("purse", x.purse(0), r);
            due("one move", x.count(4), 1);
        }
        due("move(16)", Check.of(land.toString()).move(16), FAR - 11);
        due("move(17)", Check.of(land.toString()).move(17), FAR - 11);
    }

    private static void stayingJustWithoutOpenRoads() {
        MeanRoads x = Check.of("land weather 1;place mine;place yours;road 0 1 gains 9;road 1 1 gains 2;open : weather = 1;");
        due("an open road", x.move(16), FAR - 11);
        x.weather(0);
        due("none is open", x.move(16), 0);
        due("it counts", x.count(4), 1);
        due("where it lies", x.count(3), 0);
        due("none is open: the way", x.place(0, 3), 16);
        due("by plan", x.moves(1), 0);
        due("it counts, too", x.count(4), 2);
        x.weather(1);
        due("open again", x.move(0), 9);
        due("17 is never", Check.of("land weather 0;place mine;").move(17), FAR - 11);
        due("16 without roads", Check.of("land weather 0;place mine;").move(16), 0);
        due("15 without roads", Check.of("land weather 0;place mine;").move(15), FAR - 11);
    }

    private static void whyNotInOrder() {
        MeanRoads x = Check.of("land weather 0;place mine;place mine;road 1 0 gains 1;road 0 1 gains 1;road 1 1 gains 1;"
            + "open : road = 2;");
        due("no such", x.move(3), FAR - 11);
        due("elsewhere and not open", x.move(0), FAR - 12);
        due("elsewhere", x.move(2), FAR - 12);
        due("not open", x.move(1), FAR - 13);
        due("a plan needs no open road", x.plan(0, 1), NONE);
        due("a plan from elsewhere", x.plan(0, 2), -12);
        due("a plan from elsewhere, not open", x.plan(0, 0), -12);
    }

    private static void movesByPlanAreOneToNinetyNine() {
        CHECK.bounds("moves", 1, 99, FAR - 3, v -> Check.of(land(1, 1)).moves(v));
        for (int n = 1; n <= 99; n++) {
            MeanRoads x = Check.of(land(1, 1));
            due("moves(" + n + ")", x.moves(n), n);
            due("as many", x.count(4), n);
            due("one call", x.count(7), 1);
        }
    }

    private static void movesPayAtMost() {
        MeanRoads x = Check.of("land weather 0;place mine;road 0 0 gains 99;pays : if weather = 1 then 0 - told else told end;");
        due("moves(99) by 99", x.moves(99), 9801);
        x.weather(1);
        due("moves(99) by -99", x.moves(99), -9801);
        due("what was paid in them, not the purse", x.moves(1), -99);
        due("purse", x.purse(0), -99);
    }

    private static void planOfEachRoad() {
        for (int p = 0; p < 8; p++) {
            StringBuilder land = new StringBuilder("land weather 0;" + "place mine;".repeat(8));
            for (int r = 0; r < 16; r++) {
                land.append("road ").append(r / 2).append(" 0 gains 1;");
            }
            MeanRoads x = Check.of(land.toString());
            for (int r = 0; r < 16; r++) {
                due("plan(" + p + ", " + r + ")", x.plan(p, r), r / 2 == p ? r % 2 == 0 ? NONE : r - 1 : -12);
            }
            due("the last", x.place(p, 1), 2 * p + 1);
            due("NONE", x.plan(p, NONE), 2 * p + 1);
            due("NONE again", x.plan(p, NONE), NONE);
            due("-2 is none", x.plan(p, -2), -11);
            due("16 is none", x.plan(p, 16), -11);
        }
    }

    private static void wayByPlan() {
        MeanRoads x = Check.of("land weather 0;place mine;road 0 0 gains 1;road 0 0 gains 2;road 0 0 gains 3;"
            + "open : road < weather;");
        x.plan(0, 1);
        int[] way = {16, 0, 1, 1};
        int[] paid = {0, 1, 2, 2};
        for (int w = 0; w < 4; w++) {
            x.weather(w);
            due("way by weather " + w, x.place(0, 3), way[w]);
            due("moves(1) by weather " + w, x.moves(1), paid[w]);
        }
    }

    private static void planIsLeftWhereItIsNotOpen() {
        MeanRoads x = Check.of("land weather 0;place mine;road 0 0 gains 1;open : weather = 1;");
        x.plan(0, 0);
        due("the plan is kept", x.place(0, 1), 0);
        due("the way is staying", x.place(0, 3), 16);
        x.weather(1);
        due("the way is the plan", x.place(0, 3), 0);
    }

    private static void playsCountsOthers() {
        CHECK.bounds("plays", 0, 1, -2, v -> Check.of(land(2, 1)).plays(v));
        StringBuilder land = new StringBuilder("land weather 0;" + "place mine;place yours;".repeat(4));
        for (int r = 0; r < 16; r++) {
            land.append("road ").append(r / 2).append(' ').append(r / 2).append(r % 2 == 0 ? " loses 1;" : " gains 1;");
        }
        MeanRoads x = Check.of(land.toString());
        due("four of mine", x.plays(1), 4);
        due("four of yours", x.plays(0), 4);
        for (int p = 0; p < 8; p++) {
            due("plan of " + p, x.place(p, 1), p % 2 == 0 ? 2 * p + 1 : 2 * p);
        }
        due("none is another", x.plays(1), 0);
        due("it can be undone all the same", x.count(7), 3);
        x.plan(6, 12);
        due("one is another", x.plays(1), 1);
        x.plan(6, NONE);
        x.plan(1, NONE);
        due("of mine alone", x.plays(1), 1);
    }

    private static void playsWithoutPlaces() {
        MeanRoads x = Check.of("land weather 0;place mine;road 0 0 gains 1;");
        due("you have no places", x.plays(0), 0);
        due("it can be undone", x.count(7), 1);
        due("no plan of mine", x.place(0, 1), NONE);
        MeanRoads y = Check.of("land weather 0;place yours;");
        due("I have no places", y.plays(1), 0);
        due("it can be undone", y.count(7), 1);
        due("staying: NONE already", y.plays(0), 0);
        due("it can be undone", y.count(7), 2);
    }

    private static void weathersZeroToNine() {
        CHECK.bounds("weather", 0, 9, -11, v -> Check.of(land(1, 1)).weather(v));
        MeanRoads x = Check.of("land weather 5;place mine;road 0 0 gains 1;pays : weather;");
        int was = 5;
        for (int w = 0; w <= 9; w++) {
            due("weather(" + w + ")", x.weather(w), was);
            due("count(2)", x.count(2), w);
            due("pay(0)", x.pay(0), w);
            was = w;
        }
        due("the same", x.weather(9), 9);
    }

    private static void eachCallThatDidSome() {
        MeanRoads x = Check.of("land weather 0;place mine;place yours;road 0 0 gains 1;");
        Check.fill(x, 0, 0, 9);
        Check.fill(x, 1, 9, 0);
        Check.fill(x, 2);
        due("nothing at first", x.count(7), 0);
        x.move(0);
        due("move", x.count(7), 1);
        x.move(1);
        due("a move that can't be", x.count(7), 1);
        x.moves(2);
        due("moves", x.count(7), 2);
        x.plan(0, 0);
        due("plan", x.count(7), 3);
        x.plan(0, 0);
        due("plan as it was", x.count(7), 4);
        x.plays(0);
        due("plays", x.count(7), 5);
        x.weather(0);
        due("weather as it was", x.count(7), 6);
        x.perform(0);
        due("perform of one", x.count(7), 7);
        x.perform(1);
        due("perform of none", x.count(7), 7);
        x.perform(2);
        due("perform of an empty tray", x.count(7), 7);
        due("judge", x.judge(0, 0), 1);
        x.lists(0);
        x.image(0);
        x.numbers(3, 0, 3);
        due("what can't be undone isn't counted", x.count(7), 7);
        due("undo", x.undo(1), 6);
        due("undo is none itself", x.count(7), 6);
    }

    private static void undoOneToTen() {
        for (int have = 0; have <= 12; have++) {
            int can = Math.min(have, 10);
            for (int n = -1; n <= 13; n++) {
                MeanRoads x = Check.of(land(1, 1));
                for (int i = 0; i < have; i++) {
                    x.move(0);
                }
                boolean may = n >= 1 && n <= can;
                due("undo(" + n + ") of " + have, x.undo(n), may ? can - n : -3);
                due("count(7)", x.count(7), may ? can - n : can);
                due("moves left", x.count(4), may ? have - n : have);
            }
        }
        due("undo of the least int", new MeanRoads().undo(Integer.MIN_VALUE), -3);
        due("undo of the greatest int", new MeanRoads().undo(Integer.MAX_VALUE), -3);
    }

    private static void eldestAreForgotten() {
        MeanRoads x = Check.of(land(1, 1));
        for (int i = 1; i <= 25; i++) {
            x.moves(i);
            due("calls that can be undone behind " + i, x.count(7), Math.min(i, 10));
        }
        due("undo(10)", x.undo(10), 0);
        due("the first fifteen stay", x.count(4), 15 * 16 / 2);
        due("no more", x.undo(1), -3);
        x.move(0);
        x.move(0);
        due("two more", x.undo(1), 1);
        due("one less", x.count(4), 121);
        due("and one", x.undo(1), 0);
        due("as before", x.count(4), 120);
    }

    private static void undoBringsBackAll() {
        MeanRoads x = Check.of("land weather 3;place mine;place yours;road 0 1 gains 5;road 1 0 gains 7;road 1 1 loses 2;");
        x.plan(1, 2);
        Check.fill(x, 0, 30, 24, 30, 2001, 1000, 30);
        due("perform", x.perform(0), 6);
        long[] done = {x.count(2), x.count(3), x.count(4), x.purse(0), x.place(0, 1), x.place(1, 1)};
        long[] wantDone = {4, 0, 3, 10, 0, 1};
        due("undo(1)", x.undo(1), 1);
        long[] back = {x.count(2), x.count(3), x.count(4), x.purse(0), x.place(0, 1), x.place(1, 1)};
        long[] wantBack = {3, 0, 0, 0, NONE, 2};
        for (int i = 0; i < done.length; i++) {
            due("done, " + i, done[i], wantDone[i]);
            due("undone, " + i, back[i], wantBack[i]);
        }
    }

    /** With sixteen roads from place 0 each deed 0 to 15 can be, 16 can't. */
    private static void deedsOfEachNumber() {
        for (int v = -20; v <= 1020; v++) {
            boolean can = v >= 0 && v <= 15 || v >= 20 && v <= 30 || v >= 1000 && v <= 1015;
            MeanRoads x = Check.of(land(1, 16));
            Check.fill(x, 0, v);
            due("why not " + v, x.judge(0, 1), can ? 0 : 1);
            due("perform " + v, x.perform(0), can ? 1 : 0);
            boolean moves = v >= 0 && v <= 15 || v == 30;
            due("moves by " + v, x.count(4), moves ? 1 : 0);
            due("weather by " + v, x.count(2), v >= 20 && v <= 29 ? v - 20 : 0);
            due("plan by " + v, x.place(0, 1), v >= 1000 && v <= 1015 ? v - 1000 : NONE);
        }
        MeanRoads y = new MeanRoads();
        Check.fill(y, 0, 16);
        due("16 without roads", y.judge(0, 1), 0);
        Check.fill(y, 0, 17);
        due("17 without roads", y.judge(0, 1), 1);
        Check.fill(y, 0, 0);
        due("0 without roads", y.judge(0, 1), 1);
        long[] far = {9000, 9999, 1L << 32, (1L << 32) + 30, -(1L << 32), Long.MIN_VALUE, Long.MAX_VALUE};
        for (long v : far) {
            Check.fill(y, 0, v);
            due("why not " + v, y.judge(0, 1), 1);
        }
    }

    private static void planDeedsOfEachPlace() {
        for (int places = 1; places <= 8; places++) {
            for (int p = 0; p < 8; p++) {
                MeanRoads x = Check.of("land weather 0;" + "place yours;".repeat(places)
                    + "road " + Math.min(p, places - 1) + " 0 gains 1;");
                x.plan(Math.min(p, places - 1), 0);
                int none = 1000 * (p + 1) + 999;
                Check.fill(x, 0, none);
                due("deed " + none + " of " + places, x.judge(0, 1), p < places ? 0 : 1);
                x.perform(0);
                due("plan of " + p, x.place(p, 1), p < places ? NONE : -2);
                long[] deeds = {none - 999, none - 998, none - 1};
                long[] why = {p < places ? 0 : 1, 1, 1};
                for (int i = 0; i < deeds.length; i++) {
                    Check.fill(x, 0, deeds[i]);
                    due("deed " + deeds[i] + " of " + places, x.judge(0, 1), why[i]);
                }
            }
        }
        MeanRoads x = Check.of("land weather 0;place mine;place mine;road 0 1 gains 1;");
        Check.fill(x, 0, 2000);
        due("a road from elsewhere", x.judge(0, 1), 2);
        Check.fill(x, 0, 3000);
        due("no place, and from elsewhere", x.judge(0, 1), 1);
    }

    /** As numbers are cut to their sort, so are deeds. */
    private static void deedsOfEachSort() {
        MeanRoads x = Check.of(land(1, 3));
        long[] written = {256 + 30, 65536 + 1002, (1L << 32) + 1002, 1002};
        for (int sort = 0; sort < 4; sort++) {
            x.numbers(0, sort, 1);
            x.write(0, 0, written[sort]);
            due("cut to sort " + sort, x.judge(0, 1), 0);
        }
        x.numbers(0, 0, 1);
        x.write(0, 0, 1002);
        due("8 bits hold no 1002", x.judge(0, 1), 1);
    }

    private static void judgeTellsTheFirst() {
        for (int k = 0; k < 40; k++) {
            MeanRoads x = Check.of(land(1, 1));
            x.numbers(0, 2, 40);
            x.write(0, k, 7);
            if (k < 39) {
                x.write(0, 39, 31);
            }
            due("the first that can't be", x.judge(0, 0), k);
            due("why", x.judge(0, 1), 1);
            due("where", x.judge(0, 2), 0);
            due("purse", x.judge(0, 3), 1000000 + k);
            due("perform", x.perform(0), k);
            due("moves", x.count(4), k);
            due("undone as a whole", x.count(7), k == 0 ? 0 : 1);
        }
    }

    private static void emptyAndFullTrays() {
        MeanRoads x = Check.of("land weather 0;place mine;place mine;road 0 1 gains 99;road 1 0 gains 98;");
        x.move(0);
        x.numbers(0, 0, 0);
        due("none can't be", x.judge(0, 0), NONE);
        due("why", x.judge(0, 1), 0);
        due("where", x.judge(0, 2), 1);
        due("purse", x.judge(0, 3), 1000099);
        due("perform none", x.perform(0), 0);
        due("not to be undone", x.count(7), 1);
        x.numbers(0, 0, 40);
        for (int i = 0; i < 40; i++) {
            x.write(0, i, 30);
        }
        due("all can be", x.judge(0, 0), NONE);
        due("why", x.judge(0, 1), 0);
        due("where", x.judge(0, 2), 1);
        due("purse", x.judge(0, 3), 1000099 + 20 * 197);
        due("perform forty", x.perform(0), 40);
        due("moves", x.count(4), 41);
        due("to be undone as one", x.undo(1), 1);
        due("moves", x.count(4), 1);
    }

    private static void performedTillOneCannot() {
        MeanRoads x = Check.of(land(1, 2));
        Check.fill(x, 0, 0, 1, 5, 0, 0);
        due("till one can't be", x.perform(0), 2);
        due("those behind it aren't done", x.count(4), 2);
        Check.fill(x, 0, 5, 0);
        due("none", x.perform(0), 0);
        due("moves", x.count(4), 2);
    }

    private static int drawn(int v) {
        return 1103515245 * v + 12345;
    }

    /** A journey is as its drawn deeds, each in a tray by itself. */
    private static void journeyIsOneToForty() {
        CHECK.bounds("journey", 1, 40, -3, v -> Check.of(land(1, 1)).journey(1, v));
        String land = Stands.THREE;
        int[] seeds = {0, 1, -1, 2, 12345, -12345, Integer.MIN_VALUE, Integer.MAX_VALUE, 0x7fff0000, 0x80000001};
        for (int seed : seeds) {
            for (int times = 1; times <= 40; times++) {
                MeanRoads a = Check.of(land);
                MeanRoads b = Check.of(land);
                int could = 0;
                int v = seed;
                for (int i = 0; i < times; i++) {
                    v = drawn(v);
                    int kind = (v >>> 16) % 6;
                    long deed = 30;
                    if (kind != 3 && kind != 4) {
                        v = drawn(v);
                        deed = kind == 5 ? 20 + (v >>> 16) % 10 : (v >>> 16) % 17;
                    }
                    Check.fill(b, 0, deed);
                    could += b.perform(0);
                }
                String call = "journey(" + seed + ", " + times + ")";
                due(call, a.journey(seed, times), could);
                due(call + ": purse", a.purse(0), b.purse(0));
                due(call + ": token", a.count(3), b.count(3));
                due(call + ": moves", a.count(4), b.count(4));
                due(call + ": weather", a.count(2), b.count(2));
                due(call + ": as a whole", a.count(7), could > 0 ? 1 : 0);
                due(call + ": undone", a.undo(1), could > 0 ? 0 : -3);
                due(call + ": undone, purse", a.purse(0), 0);
                due(call + ": undone, token", a.count(3), 0);
                due(call + ": undone, moves", a.count(4), 0);
                due(call + ": undone, weather", a.count(2), 2);
            }
        }
    }

    /** By seed 0 the first draws ask for roads 6 and 9, which aren't there. */
    private static void journeyOfNothing() {
        MeanRoads x = Check.of(land(1, 6));
        due("roads 6 and 9", x.journey(0, 2), 0);
        due("nothing to undo", x.count(7), 0);
        due("no moves", x.count(4), 0);
        due("road 6 is there", Check.of(land(1, 7)).journey(0, 1), 1);
        due("road 9 is there, too", Check.of(land(1, 10)).journey(0, 2), 2);
        due("road 9 isn't", Check.of(land(1, 9)).journey(0, 2), 1);
    }

    private static void purseOfJudge() {
        MeanRoads x = Check.of("land weather 0;place mine;road 0 0 loses 99;");
        x.numbers(0, 0, 0);
        due("0", x.judge(0, 3), 1000000);
        for (int i = 0; i < 103; i++) {
            x.moves(99);
        }
        // 103 * 9801 is 1,009,503
        due("below a million", x.judge(0, 3), -9503);
    }
}
