/** The bounds of promises 17 to 28: rings, means, what the game is worth, plans that secure it, energy. */
public final class GameBoundsTest {
    private static final Check CHECK = new Check();
    private static final long FAR = Check.FAR;

    public static void main(String[] args) {
        whichAndWhat();
        ringsOfNoRoads();
        ringsByOtherWays();
        ringsMeetNoPlaceTwice();
        meansInLowestTerms();
        meansAtMost();
        meansByEachWeather();
        ringsThatCanBeComeTo();
        reachesItself();
        allPlacesAsBits();
        onRingOfJustThatMean();
        signOfWorth();
        atLeastAsBounds();
        atLeastExactly();
        stayingIsBehindRoads();
        theFirstOfSeveralBest();
        bestSecuresFromEachPlace();
        againstAllThatTheOtherMayChoose();
        plansOfPlayerWithoutPlaces();
        mostWholePlans();
        plansAsSet();
        meetNowhereAndEverywhere();
        energyIsLeast();
        energyAtMost();
        energyNone();
        energyOfYours();
        CHECK.end();
    }

    private static void due(String call, long got, long want) {
        CHECK.due(call, got, want);
    }

    private static void fraction(String what, long above, long below, long wantAbove, long wantBelow) {
        due(what + ", above", above, wantAbove);
        due(what + ", below", below, wantBelow);
    }

    /** A ring of so many places, all of mine, the first road of which pays so much, the others nothing. */
    private static String ring(int places, int pay) {
        StringBuilder land = new StringBuilder("land weather 0;" + "place mine;".repeat(places));
        for (int i = 0; i < places; i++) {
            int much = i == 0 ? pay : 0;
            land.append("road ").append(i).append(' ').append((i + 1) % places).append(much < 0 ? " loses " : " gains ")
                .append(Math.abs(much)).append(';');
        }
        return land.toString();
    }

    private static void whichAndWhat() {
        String land = ring(2, 3);
        CHECK.bounds("ring, which", 0, 1, FAR - 2, v -> Check.of(land).ring(0, v, 0));
        CHECK.bounds("ring, what", 0, 1, FAR - 2, v -> Check.of(land).ring(0, 0, v));
        CHECK.bounds("onRing", 0, 1, -2, v -> Check.of(land).onRing(v));
        CHECK.bounds("worth, what", 0, 1, FAR - 2, v -> Check.of(land).worth(0, v));
        CHECK.bounds("wins", 0, 2, -2, v -> Check.of(land).wins(v));
        CHECK.bounds("secures, who", 0, 1, FAR - 2, v -> Check.of(land).secures(v, 0, 0));
        CHECK.bounds("secures, what", 0, 1, FAR - 2, v -> Check.of(land).secures(0, 0, v));
        CHECK.bounds("plans, who", 0, 1, -2, v -> Check.of(land).plans(v, 0));
        CHECK.bounds("atLeast, a", -9999, 9999, -3, v -> Check.of(land).atLeast(0, v, 1));
        CHECK.bounds("atLeast, b", 1, 99, -3, v -> Check.of(land).atLeast(0, 0, v));
    }

    private static void ringsOfNoRoads() {
        due("a new object", new MeanRoads().rings(), 1);
        for (int n = 1; n <= 8; n++) {
            MeanRoads x = Check.of("land weather 0;" + "place yours;".repeat(n));
            due("each stays", x.rings(), n);
            due("of mean 0, the least", x.onRing(0), (1 << n) - 1);
            due("of mean 0, the greatest", x.onRing(1), (1 << n) - 1);
        }
    }

    private static void ringsByOtherWays() {
        for (int n = 1; n <= 16; n++) {
            due(n + " from a place to itself", Check.of("land weather 0;place mine;" + "road 0 0 gains 1;".repeat(n)).rings(), n);
        }
        String two = "land weather 0;place mine;place mine;";
        due("8 there, 8 back", Check.of(two + "road 0 1 gains 1;".repeat(8) + "road 1 0 gains 1;".repeat(8)).rings(), 64);
        due("there alone: staying", Check.of(two + "road 0 1 gains 1;").rings(), 1);
    }

    /** Two rings that share a place: the eight of both is none. */
    private static void ringsMeetNoPlaceTwice() {
        MeanRoads x = Check.of("land weather 0;place mine;place mine;place mine;road 0 1 gains 9;road 1 0 gains 9;"
            + "road 1 2 gains 0;road 2 1 gains 1;");
        due("rings()", x.rings(), 2);
        fraction("the greatest", x.ring(2, 1, 0), x.ring(2, 1, 1), 9, 1);
        fraction("the least", x.ring(0, 0, 0), x.ring(0, 0, 1), 1, 2);
        // on the way round a place that leads to itself
        for (int n = 2; n <= 8; n++) {
            for (int p = 0; p < n; p++) {
                MeanRoads y = Check.of(ring(n, 1) + "road " + p + " " + p + " gains 9;");
                due("a ring of " + n + " and one at " + p, y.rings(), 2);
                due("the least mean of it", y.ring(p, 0, 1), n);
            }
        }
    }

    private static long divisor(long a, long b) {
        return b == 0 ? Math.abs(a) : divisor(b, a % b);
    }

    private static void meansInLowestTerms() {
        for (int n = 1; n <= 8; n++) {
            for (int pay : new int[] {-99, -56, -8, -6, -1, 0, 1, 2, 7, 12, 35, 84, 99}) {
                MeanRoads x = Check.of(ring(n, pay));
                long by = divisor(pay, n);
                String what = pay + " by " + n;
                fraction("ring, " + what, x.ring(0, 0, 0), x.ring(0, 0, 1), pay / by, n / by);
                fraction("worth, " + what, x.worth(n - 1, 0), x.worth(n - 1, 1), pay / by, n / by);
                fraction("secures, " + what, x.secures(1, 0, 0), x.secures(1, 0, 1), pay / by, n / by);
                fraction("secures 0, " + what, x.secures(0, 0, 0), x.secures(0, 0, 1), pay / by, n / by);
            }
        }
    }

    private static void meansAtMost() {
        for (int n = 1; n <= 8; n++) {
            MeanRoads most = Check.of(ring(n, 0) + "pays : 999;");
            MeanRoads least = Check.of(ring(n, 0) + "pays : 0 - 999;");
            fraction("99 all along", most.ring(0, 1, 0), most.ring(0, 1, 1), 99, 1);
            fraction("-99 all along", least.ring(0, 0, 0), least.ring(0, 0, 1), -99, 1);
            fraction("worth 99", most.worth(0, 0), most.worth(0, 1), 99, 1);
            fraction("worth -99", least.worth(0, 0), least.worth(0, 1), -99, 1);
        }
    }

    private static void meansByEachWeather() {
        MeanRoads x = Check.of(ring(3, 0) + "pays : weather * 11 - 44;");
        for (int w = 0; w <= 9; w++) {
            x.weather(w);
            long want = 11 * w - 44;
            fraction("ring by weather " + w, x.ring(0, 0, 0), x.ring(0, 1, 1), want, 1);
            fraction("worth by weather " + w, x.worth(1, 0), x.worth(1, 1), want, 1);
            fraction("secures by weather " + w, x.secures(0, 2, 0), x.secures(1, 2, 1), want, 1);
            due("wins by weather " + w, x.wins(Long.signum(want) + 1), 7);
            due("energy by weather " + w, x.energy(0), want < 0 ? -1 : 0);
        }
    }

    private static void ringsThatCanBeComeTo() {
        MeanRoads x = Check.of("land weather 0;place mine;place yours;place mine;road 0 0 gains 5;road 0 1 gains 0;"
            + "road 1 1 gains 7;road 2 2 loses 1;road 2 0 gains 0;road 1 2 gains 0;open : road < 5;");
        long[][] want = {{5, 7}, {7, 7}, {-1, 7}};
        for (int p = 0; p < 3; p++) {
            due("the least from " + p, x.ring(p, 0, 0), want[p][0]);
            due("the greatest from " + p, x.ring(p, 1, 0), want[p][1]);
        }
    }

    private static void reachesItself() {
        MeanRoads x = Check.of("land weather 0;" + "place mine;".repeat(8) + "road 0 7 gains 1;");
        due("itself and one", x.reach(0), 129);
        for (int p = 1; p < 8; p++) {
            due("itself alone, " + p, x.reach(p), 1 << p);
        }
        due("a road that isn't open", Check.of("land weather 0;place mine;place mine;road 0 1 gains 1;open : 1 = 2;").reach(0), 1);
    }

    private static void allPlacesAsBits() {
        MeanRoads x = Check.of(ring(8, 1));
        for (int p = 0; p < 8; p++) {
            due("reach(" + p + ")", x.reach(p), 255);
        }
        due("onRing(0)", x.onRing(0), 255);
        due("onRing(1)", x.onRing(1), 255);
        due("wins(2)", x.wins(2), 255);
        due("meet", x.meet(), 255);
        due("rings", x.rings(), 1);
    }

    private static void onRingOfJustThatMean() {
        MeanRoads x = Check.of("land weather 0;place mine;place mine;place mine;place mine;road 0 0 gains 1;road 1 2 gains 0;"
            + "road 2 1 gains 2;road 3 3 gains 1;road 3 0 gains 9;");
        due("all of one mean", x.onRing(0), 15);
        due("all of one mean", x.onRing(1), 15);
        MeanRoads y = Check.of("land weather 0;place mine;place mine;place mine;road 0 1 gains 1;road 1 0 gains 2;"
            + "road 2 2 gains 1;");
        due("3 by 2 is more than 1", y.onRing(1), 3);
        due("1 is the least", y.onRing(0), 4);
    }

    private static void signOfWorth() {
        for (int n = 1; n <= 8; n++) {
            int all = (1 << n) - 1;
            for (int pay = -1; pay <= 1; pay++) {
                MeanRoads x = Check.of(ring(n, pay));
                for (int sign = 0; sign <= 2; sign++) {
                    due("wins(" + sign + ") of " + pay + " by " + n, x.wins(sign), sign == pay + 1 ? all : 0);
                }
            }
        }
        due("staying is worth 0", new MeanRoads().wins(1), 1);
    }

    private static void atLeastAsBounds() {
        MeanRoads most = Check.of(ring(1, 99));
        MeanRoads least = Check.of(ring(1, -99));
        due("99 is 9801 by 99", most.atLeast(0, 9801, 99), 1);
        due("99 is not 9802 by 99", most.atLeast(0, 9802, 99), 0);
        due("99 is not 9999 by 1", most.atLeast(0, 9999, 1), 0);
        due("99 is more than -9999 by 99", most.atLeast(0, -9999, 99), 1);
        due("-99 is -9801 by 99", least.atLeast(0, -9801, 99), 1);
        due("-99 is not -9800 by 99", least.atLeast(0, -9800, 99), 0);
        due("-99 is more than -9999 by 99", least.atLeast(0, -9999, 99), 1);
        due("-99 is more than -9999 by 1", least.atLeast(0, -9999, 1), 1);
        due("-99 is not 9999 by 99", least.atLeast(0, 9999, 99), 0);
        due("0 is 0 by 99", new MeanRoads().atLeast(0, 0, 99), 1);
        due("0 is not 1 by 99", new MeanRoads().atLeast(0, 1, 99), 0);
        due("0 is more than -1 by 99", new MeanRoads().atLeast(0, -1, 99), 1);
    }

    private static void atLeastExactly() {
        for (int n = 1; n <= 8; n++) {
            for (int pay : new int[] {-7, -1, 0, 1, 5}) {
                MeanRoads x = Check.of(ring(n, pay));
                for (int k = 1; k <= 12; k++) {
                    due(pay + " by " + n + " as " + pay * k + " by " + n * k, x.atLeast(0, pay * k, n * k), 1);
                    due(pay + " by " + n + " and one more", x.atLeast(0, pay * k + 1, n * k), 0);
                    due(pay + " by " + n + " and one less", x.atLeast(n - 1, pay * k - 1, n * k), 1);
                }
            }
        }
    }

    private static void stayingIsBehindRoads() {
        MeanRoads x = Check.of("land weather 0;place mine;place yours;road 0 1 gains 0;" + "road 1 1 gains 0;open : road = weather;");
        due("best(0): a road", x.best(0), 0);
        due("best(1): staying", x.best(1), 16);
        x.weather(1);
        due("best(0): staying", x.best(0), 16);
        due("best(1): a road", x.best(1), 1);
        x.weather(2);
        due("best(0): none is open", x.best(0), 16);
    }

    private static void theFirstOfSeveralBest() {
        for (int first = 0; first < 16; first++) {
            StringBuilder mine = new StringBuilder("land weather 0;place mine;");
            StringBuilder yours = new StringBuilder("land weather 0;place yours;");
            for (int r = 0; r < 16; r++) {
                mine.append("road 0 0 gains ").append(r < first ? 1 : 2).append(';');
                yours.append("road 0 0 gains ").append(r < first ? 2 : 1).append(';');
            }
            due("mine, the first", Check.of(mine.toString()).best(0), first);
            due("yours, the first", Check.of(yours.toString()).best(0), first);
            due("mine, as good", Check.of(mine.toString()).plans(1, 0), first == 0 ? 16 : 16 - first);
            due("yours, as good", Check.of(yours.toString()).plans(0, 0), first == 0 ? 16 : 16 - first);
        }
    }

    /** From place 0 both ways of place 1 secure the same, yet from place 1 only the second does. */
    private static void bestSecuresFromEachPlace() {
        MeanRoads x = Check.of("land weather 0;place mine;place mine;road 0 0 gains 5;road 1 1 gains 1;road 1 0 loses 99;"
            + "road 0 1 gains 0;");
        due("best(0)", x.best(0), 0);
        due("best(1)", x.best(1), 2);
        due("from place 0 each way of 1 does", x.plans(1, 0), 2);
        due("from place 1 one does", x.plans(1, 1), 1);
    }

    /** The last way of each player is the one that the other must fear. */
    private static void againstAllThatTheOtherMayChoose() {
        MeanRoads x = Check.of("land weather 0;place mine;place yours;road 0 1 gains 0;road 0 0 gains 2;road 1 0 gains 8;"
            + "road 1 1 gains 1;");
        // by road 0 I am paid 4, or 1 if you stay; by road 1 I am paid 2, and you stay for 1
        fraction("from mine", x.worth(0, 0), x.worth(0, 1), 2, 1);
        fraction("from yours", x.worth(1, 0), x.worth(1, 1), 1, 1);
        due("mine", x.best(0), 1);
        due("yours", x.best(1), 3);
        due("plans of mine from mine", x.plans(1, 0), 1);
        due("plans of mine from yours", x.plans(1, 1), 2);
        due("plans of yours from mine", x.plans(0, 0), 1);
        due("plans of yours from yours", x.plans(0, 1), 1);
    }

    private static void plansOfPlayerWithoutPlaces() {
        MeanRoads mine = Check.of(ring(3, 1));
        due("you have one", mine.plans(0, 0), 1);
        fraction("it secures", mine.secures(0, 0, 0), mine.secures(0, 0, 1), 1, 3);
        MeanRoads yours = Check.of(ring(3, 1).replace("mine", "yours"));
        due("I have one", yours.plans(1, 2), 1);
        fraction("it secures", yours.secures(1, 2, 0), yours.secures(1, 2, 1), 1, 3);
        due("a new object, mine", new MeanRoads().plans(1, 0), 1);
        due("a new object, yours", new MeanRoads().plans(0, 0), 1);
    }

    /** Sixteen roads share out as 3 3 3 3 4, or 2 to each of eight places. */
    private static void mostWholePlans() {
        int[][] shares = {{16}, {8, 8}, {5, 5, 6}, {4, 4, 4, 4}, {3, 3, 3, 3, 4}, {2, 2, 3, 3, 3, 3}, {2, 2, 2, 2, 2, 3, 3},
            {2, 2, 2, 2, 2, 2, 2, 2}};
        int[] want = {16, 64, 150, 256, 324, 324, 288, 256};
        for (String whose : new String[] {"mine", "yours"}) {
            for (int k = 0; k < shares.length; k++) {
                StringBuilder land = new StringBuilder("land weather 0;" + ("place " + whose + ";").repeat(shares[k].length));
                for (int p = 0; p < shares[k].length; p++) {
                    land.append(("road " + p + " " + p + " gains 1;").repeat(shares[k][p]));
                }
                MeanRoads x = Check.of(land.toString());
                int who = whose.equals("mine") ? 1 : 0;
                due("plans of " + whose + ", " + shares[k].length, x.plans(who, 0), want[k]);
                due("plans of the other", x.plans(1 - who, 0), 1);
            }
        }
        // the very last of 324 alone is best
        StringBuilder land = new StringBuilder("land weather 0;" + "place mine;".repeat(5));
        int[] last = {2, 5, 8, 11, 15};
        for (int r = 0; r < 16; r++) {
            int p = Math.min(r / 3, 4);
            land.append("road ").append(p).append(' ').append(p).append(r == last[p] ? " gains 1;" : " gains 0;");
        }
        MeanRoads x = Check.of(land.toString());
        for (int p = 0; p < 5; p++) {
            due("best(" + p + ")", x.best(p), last[p]);
            due("plans(1, " + p + ")", x.plans(1, p), p == 4 ? 81 : 108);
        }
    }

    private static void plansAsSet() {
        MeanRoads x = Check.of("land weather 0;place mine;place yours;road 0 0 gains 1;road 0 1 gains 4;road 1 0 gains 6;"
            + "road 1 1 gains 2;open : not road = weather - 1;");
        // mine by road 0: 1 from place 0; from 1 you could stay for 2 or come to me for 1
        fraction("mine, none set", x.secures(1, 1, 0), x.secures(1, 1, 1), 1, 1);
        fraction("yours, none set: back to me", x.secures(0, 1, 0), x.secures(0, 1, 1), 5, 1);
        x.plan(0, 1);
        fraction("mine by road 1", x.secures(1, 0, 0), x.secures(1, 0, 1), 2, 1);
        x.plan(1, 3);
        fraction("yours by road 3", x.secures(0, 0, 0), x.secures(0, 0, 1), 2, 1);
        x.weather(2);
        fraction("mine, its road isn't open", x.secures(1, 0, 0), x.secures(1, 0, 1), 1, 1);
        x.weather(4);
        fraction("yours, its road isn't open", x.secures(0, 0, 0), x.secures(0, 0, 1), 5, 1);
    }

    private static void meetNowhereAndEverywhere() {
        MeanRoads x = Check.of("land weather 0;place mine;place yours;road 0 0 gains 1;road 0 1 gains 4;road 1 0 gains 6;"
            + "road 1 1 gains 2;");
        due("nowhere", x.meet(), 0);
        x.plan(1, 3);
        due("nowhere yet", x.meet(), 0);
        x.plan(0, 1);
        due("everywhere", x.meet(), 3);
        x.plan(1, 2);
        due("nowhere again", x.meet(), 0);
        due("a new object", new MeanRoads().meet(), 1);
    }

    private static void energyIsLeast() {
        for (int loss = 0; loss <= 99; loss += 11) {
            MeanRoads x = Check.of("land weather 0;place mine;place mine;road 0 1 loses " + loss + ";road 1 0 gains " + loss + ";");
            due("energy(0) of " + loss, x.energy(0), loss);
            due("energy(1) of " + loss, x.energy(1), 0);
        }
        // a purse that comes to just 0 is enough, as it lies below it nowhere
        MeanRoads x = Check.of("land weather 0;place mine;place mine;place mine;road 0 1 loses 3;road 1 2 gains 1;road 2 0 gains 2;");
        due("lose 3 first", x.energy(0), 3);
        due("gain 3 first", x.energy(1), 0);
        due("gain 2, then lose 3", x.energy(2), 1);
        due("the cheaper of two ways", Check.of("land weather 0;place mine;place mine;place mine;road 0 1 loses 9;"
            + "road 0 2 loses 8;").energy(0), 8);
    }

    private static void energyAtMost() {
        for (int n = 1; n <= 8; n++) {
            StringBuilder land = new StringBuilder("land weather 0;" + "place mine;".repeat(n));
            for (int i = 0; i + 1 < n; i++) {
                land.append("road ").append(i).append(' ').append(i + 1).append(" loses 99;");
            }
            MeanRoads x = Check.of(land.toString());
            for (int p = 0; p < n; p++) {
                due("energy(" + p + ") of " + n, x.energy(p), 99 * (n - 1 - p));
            }
        }
    }

    private static void energyNone() {
        due("losing 1 for ever", Check.of(ring(1, -1)).energy(0), -1);
        due("losing 0 for ever", Check.of(ring(1, 0)).energy(0), 0);
        for (int n = 1; n <= 8; n++) {
            due("a ring of less than 0", Check.of(ring(n, -1)).energy(n - 1), -1);
            due("a ring of 0", Check.of(ring(n, 0)).energy(n - 1), 0);
        }
        // 693 gained ahead of a ring that loses 1 is not enough, however long it lasts
        StringBuilder land = new StringBuilder("land weather 0;" + "place mine;".repeat(8));
        for (int i = 0; i < 7; i++) {
            land.append("road ").append(i).append(' ').append(i + 1).append(" gains 99;");
        }
        due("gain, then lose 1 for ever", Check.of(land + "road 7 7 loses 1;").energy(0), -1);
        due("gain, then stay", Check.of(land + "road 7 7 gains 0;").energy(0), 0);
    }

    private static void energyOfYours() {
        String land = "land weather 0;place yours;place mine;place mine;road 0 1 loses 4;road 0 2 loses 9;";
        due("the dearer of two ways", Check.of(land).energy(0), 9);
        due("nothing is needed", Check.of("land weather 0;place yours;").energy(0), 0);
        due("nothing is needed, gaining", Check.of(ring(1, 1).replace("mine", "yours")).energy(0), 0);
        due("you can come to a ring that loses", Check.of(land + "road 1 1 loses 1;").energy(0), -1);
        due("I need not go there", Check.of((land + "road 1 1 loses 1;").replaceFirst("yours", "mine")).energy(0), 9);
    }
}
