/** Promises 21 to 28: worth, wins, atLeast, best, secures, meet, plans, energy. */
public final class GameTest {
    private static final Check CHECK = new Check();

    public static void main(String[] args) {
        tugOfWar();
        thirds();
        stayingIsLast();
        oneSided();
        needs();
        mostPlans();
        byItself();
        wrong();
        CHECK.end();
    }

    private static void due(String call, long got, long want) {
        CHECK.due(call, got, want);
    }

    private static void worth(MeanRoads x, int p, long above, long below) {
        due("worth(" + p + ", 0)", x.worth(p, 0), above);
        due("worth(" + p + ", 1)", x.worth(p, 1), below);
    }

    /** Place 1, yours: back to me for 4, or into 2, where all is lost. */
    private static void tugOfWar() {
        MeanRoads x = Check.of("land weather 0;place mine;place yours;place mine;road 0 1 gains 3;road 1 0 gains 4;"
            + "road 1 2 gains 9;road 2 2 loses 1;road 0 0 gains 2;road 0 0 gains 2;");
        worth(x, 0, 2, 1);
        worth(x, 1, -1, 1);
        worth(x, 2, -1, 1);
        due("wins(0)", x.wins(0), 6);
        due("wins(1)", x.wins(1), 0);
        due("wins(2)", x.wins(2), 1);
        due("best(0)", x.best(0), 4);
        due("best(1)", x.best(1), 2);
        due("best(2)", x.best(2), 3);
        due("plans(1, 0)", x.plans(1, 0), 2);
        due("plans(1, 1)", x.plans(1, 1), 3);
        due("plans(0, 1)", x.plans(0, 1), 1);
        due("plans(0, 2)", x.plans(0, 2), 2);
        // as set: 0 by road 0, 1 by road 1
        due("secures(1, 0, 0)", x.secures(1, 0, 0), -1);
        due("secures(0, 0, 0)", x.secures(0, 0, 0), 7);
        due("secures(0, 0, 1)", x.secures(0, 0, 1), 2);
        due("meet()", x.meet(), 4);
        x.plan(1, 2);
        due("secures(0, 0, 0) by road 2", x.secures(0, 0, 0), 2);
        due("meet() by road 2", x.meet(), 6);
        x.plan(0, 5);
        due("secures(1, 0, 0) by road 5", x.secures(1, 0, 0), 2);
        due("meet() by road 5", x.meet(), 7);
        due("energy(0)", x.energy(0), 0);
        due("energy(1)", x.energy(1), -1);
        due("atLeast(0, 2, 1)", x.atLeast(0, 2, 1), 1);
        due("atLeast(0, 198, 99)", x.atLeast(0, 198, 99), 1);
        due("atLeast(0, 199, 99)", x.atLeast(0, 199, 99), 0);
        due("atLeast(1, -1, 1)", x.atLeast(1, -1, 1), 1);
        due("atLeast(1, -98, 99)", x.atLeast(1, -98, 99), 0);
        due("atLeast(1, -9999, 99)", x.atLeast(1, -9999, 99), 1);
    }

    private static void thirds() {
        MeanRoads x = Check.of("land weather 0;place mine;place yours;place yours;road 0 1 gains 1;road 1 2 gains 3;"
            + "road 2 0 loses 2;road 0 0 loses 1;road 2 1 gains 2;");
        worth(x, 0, 2, 3);
        worth(x, 2, 2, 3);
        due("wins(2)", x.wins(2), 7);
        due("best(0)", x.best(0), 0);
        due("best(2)", x.best(2), 2);
        due("atLeast(1, 2, 3)", x.atLeast(1, 2, 3), 1);
        due("atLeast(1, 66, 98)", x.atLeast(1, 66, 98), 0);
        due("energy(1)", x.energy(1), 0);
        due("energy(2)", x.energy(2), 2);
    }

    /** A best way that is STAYING, and roads that are all as good: the first. */
    private static void stayingIsLast() {
        MeanRoads x = Check.of("land weather 0;place yours;place mine;road 0 1 gains 5;road 0 1 gains 6;road 1 0 gains 7;"
            + "open : road < 2;");
        worth(x, 0, 0, 1);
        due("best(1)", x.best(1), 16);
        due("best(0)", x.best(0), 0);
        due("plans(0, 0)", x.plans(0, 0), 2);
        due("plans(1, 0)", x.plans(1, 0), 1);
    }

    private static void oneSided() {
        MeanRoads x = Check.of("land weather 0;place yours;place yours;road 0 0 gains 1;road 0 1 gains 8;road 1 0 loses 9;"
            + "road 1 1 gains 5;");
        worth(x, 0, -1, 2);
        due("plans(1, 0): one", x.plans(1, 0), 1);
        due("secures(1, 0, 0)", x.secures(1, 0, 0), -1);
        due("secures(1, 0, 1)", x.secures(1, 0, 1), 2);
        due("plans(0, 0)", x.plans(0, 0), 1);
        due("best(0)", x.best(0), 1);
        due("best(1)", x.best(1), 2);
        // as set you go 0 to 0 and 1 to 0
        due("secures(0, 1, 0)", x.secures(0, 1, 0), 1);
        due("meet()", x.meet(), 0);
        x.plays(0);
        due("meet() by best", x.meet(), 3);
    }

    private static void needs() {
        MeanRoads x = Check.of("land weather 0;place mine;place yours;place mine;place mine;road 0 1 loses 10;"
            + "road 1 2 loses 5;road 1 3 loses 90;road 2 2 gains 0;road 3 3 gains 1;road 0 0 loses 1;");
        due("energy(0)", x.energy(0), 100);
        due("energy(1)", x.energy(1), 90);
        due("energy(2)", x.energy(2), 0);
        StringBuilder line = new StringBuilder("land weather 0;" + "place mine;".repeat(8));
        for (int i = 0; i < 7; i++) {
            line.append("road ").append(i).append(' ').append(i + 1).append(" loses 99;");
        }
        x = Check.of(line.toString());
        due("the most there can be", x.energy(0), 693);
        due("energy(7)", x.energy(7), 0);
        x = Check.of("land weather 0;place mine;place mine;road 0 1 gains 99;road 1 0 loses 98;");
        due("gain first", x.energy(0), 0);
        due("lose first", x.energy(1), 98);
        x = Check.of("land weather 0;place mine;place mine;road 0 1 gains 98;road 1 0 loses 99;");
        due("never enough", x.energy(0), -1);
    }

    /** 3*3*3*3*4 whole plans, all alike, then one that is better. */
    private static void mostPlans() {
        StringBuilder land = new StringBuilder("land weather 0;" + "place mine;".repeat(5));
        for (int i = 0; i < 15; i++) {
            land.append("road ").append(i / 3).append(' ').append(i / 3).append(" gains 1;");
        }
        MeanRoads x = Check.of(land + "road 4 4 gains 1;");
        due("plans(1, 0)", x.plans(1, 0), 324);
        due("plans(0, 0)", x.plans(0, 0), 1);
        x = Check.of(land + "road 4 4 gains 2;");
        due("plans(1, 0)", x.plans(1, 0), 324);
        due("plans(1, 4)", x.plans(1, 4), 81);
        due("best(4)", x.best(4), 15);
        due("best(3)", x.best(3), 9);
        due("plays(1)", x.plays(1), 5);
    }

    /** Each call is right as the first behind a change. */
    private static void byItself() {
        String land = "land weather 0;place mine;place yours;road 0 0 gains 1;road 0 1 gains 5;road 1 0 loses 2;"
            + "road 1 1 gains 4;pays : if weather = 1 then 0 - told else told end;";
        MeanRoads x = Check.of(land);
        due("worth by 0", x.worth(0, 0), 3);
        x.weather(1);
        due("wins(0) by 1", x.wins(0), 3);
        x.weather(0);
        due("wins(2) by 0", x.wins(2), 3);
        x.weather(1);
        due("atLeast by 1", x.atLeast(0, 0, 1), 0);
        x.weather(0);
        due("best by 0", x.best(0), 1);
        x.weather(1);
        due("best by 1", x.best(0), 0);
        x.weather(0);
        due("plans by 0", x.plans(1, 0), 1);
        x.weather(1);
        due("plays by 1", x.plays(1), 1);
        due("place(0, 1)", x.place(0, 1), 0);
        x.undo(2);
        due("worth by 0 again", x.worth(0, 0), 3);
        due("a new land", Check.tell(x, land.replace("gains 5", "gains 3")), 8);
        due("worth of the new land", x.worth(0, 0), 1);
        due("energy by itself", Check.of(land).energy(1), 2);
        due("meet() by itself", Check.of(land).meet(), 0);
        due("secures by itself", Check.of(land).secures(0, 0, 0), 3);
    }

    private static void wrong() {
        MeanRoads x = new MeanRoads();
        due("worth(1, 0)", x.worth(1, 0), Check.FAR - 2);
        due("worth(0, 2)", x.worth(0, 2), Check.FAR - 2);
        due("worth(-1, 1)", x.worth(-1, 1), Check.FAR - 2);
        due("wins(3)", x.wins(3), -2);
        due("wins(-1)", x.wins(-1), -2);
        due("atLeast(1, 0, 0): the place first", x.atLeast(1, 0, 0), -2);
        due("atLeast(0, 10000, 1)", x.atLeast(0, 10000, 1), -3);
        due("atLeast(0, -10000, 1)", x.atLeast(0, -10000, 1), -3);
        due("atLeast(0, 0, 0)", x.atLeast(0, 0, 0), -3);
        due("atLeast(0, 0, 100)", x.atLeast(0, 0, 100), -3);
        due("atLeast(0, -9999, 99)", x.atLeast(0, -9999, 99), 1);
        due("atLeast(0, 9999, 99)", x.atLeast(0, 9999, 99), 0);
        due("best(1)", x.best(1), -2);
        due("best(-1)", x.best(-1), -2);
        due("secures(2, 0, 0)", x.secures(2, 0, 0), Check.FAR - 2);
        due("secures(1, 1, 0)", x.secures(1, 1, 0), Check.FAR - 2);
        due("secures(1, 0, 2)", x.secures(1, 0, 2), Check.FAR - 2);
        due("plans(2, 0)", x.plans(2, 0), -2);
        due("plans(-1, 0)", x.plans(-1, 0), -2);
        due("plans(0, 1)", x.plans(0, 1), -2);
        due("energy(1)", x.energy(1), -2);
        due("energy(-1)", x.energy(-1), -2);
    }
}
