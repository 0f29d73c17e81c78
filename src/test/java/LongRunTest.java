import java.util.ArrayList;
import java.util.List;
import java.util.Random;

/**
 * Promises 11, 21 and 25 by the document's own words, "on the mean in the long run", without rings: what is paid in very many
 * moves, if either player chooses as well as can be, lies within 2 * 8 * 99 of as many times what the game is worth.
 */
public final class LongRunTest {
    private static final Check CHECK = new Check();
    /** So many that of two means of rings, which are 1 by 56 apart at least, one alone can be as near. */
    private static final int MOVES = 200_000;
    private static final int APART = 2 * 8 * 99;
    private static final int NOBODY = -1;

    public static void main(String[] args) {
        for (int seed = 1; seed <= 60; seed++) {
            oneLand(new Random(seed), "seed " + seed);
        }
        CHECK.end();
    }

    private static void oneLand(Random random, String seed) {
        MeanRoads x = Check.of(land(random));
        x.weather(random.nextInt(10));
        Roads roads = new Roads(x);
        long[] paid = longRun(x, roads, NOBODY);
        long[] byYours = longRun(x, roads, 0);
        long[] byMine = longRun(x, roads, 1);
        for (int p = 0; p < paid.length; p++) {
            near(seed + " worth(" + p + ")", paid[p], x.worth(p, 0), x.worth(p, 1));
            near(seed + " secures(0, " + p + ")", byYours[p], x.secures(0, p, 0), x.secures(0, p, 1));
            near(seed + " secures(1, " + p + ")", byMine[p], x.secures(1, p, 0), x.secures(1, p, 1));
        }
        for (int who = 0; who <= 1; who++) {
            x.plays(who);
            long[] byBest = longRun(x, roads, who);
            for (int p = 0; p < paid.length; p++) {
                near(seed + " best plan of " + who + " from " + p, byBest[p], x.worth(p, 0), x.worth(p, 1));
            }
        }
    }

    private static String land(Random random) {
        int places = 1 + random.nextInt(8);
        StringBuilder land = new StringBuilder("land weather 0;");
        for (int p = 0; p < places; p++) {
            land.append(random.nextBoolean() ? "place mine;" : "place yours;");
        }
        int most = random.nextBoolean() ? 100 : 4;
        for (int r = random.nextInt(5) == 0 ? 8 : 0; r < 16; r++) {
            land.append("road ").append(random.nextInt(places)).append(' ').append(random.nextInt(places))
                .append(random.nextBoolean() ? " gains " : " loses ").append(random.nextInt(most)).append(';');
        }
        return land.append(random.nextBoolean() ? "open : not road = weather;" : "").toString();
    }

    private static void near(String what, long paid, long above, long below) {
        boolean isNear = below >= 1 && below <= 8 && Math.abs(paid * below - above * MOVES) <= APART * below;
        CHECK.holds(what + ": " + above + " by " + below + " is near " + paid + " by " + MOVES, isNear);
    }

    /** What the object tells of its roads, asked once, as an object is good for 512 calls alone. */
    private static final class Roads {
        final int[] from;
        final int[] to;
        final int[] pay;
        final boolean[] open;

        Roads(MeanRoads x) {
            int many = x.count(1);
            from = new int[many];
            to = new int[many];
            pay = new int[many];
            open = new boolean[many];
            for (int r = 0; r < many; r++) {
                from[r] = x.road(r, 0);
                to[r] = x.road(r, 1);
                pay[r] = (int) x.pay(r);
                open[r] = x.road(r, 2) == 1;
            }
        }

        /** Where the ways from a place lead and what they pay, in turn: by plan the one alone. */
        int[] ways(int p, int planned, boolean byPlan) {
            List<Integer> ways = new ArrayList<>();
            for (int r = 0; r < from.length; r++) {
                if (from[r] == p && open[r] && (!byPlan || r == planned)) {
                    ways.addAll(List.of(to[r], pay[r]));
                }
            }
            return ways.isEmpty() ? new int[] {p, 0} : ways.stream().mapToInt(v -> v).toArray();
        }
    }

    /** What is paid in so many moves from each place, if one player goes by plan and whoever else chooses each time. */
    private static long[] longRun(MeanRoads x, Roads roads, int byPlan) {
        int places = x.count(0);
        int mine = x.count(5);
        int[][] ways = new int[places][];
        for (int p = 0; p < places; p++) {
            ways[p] = roads.ways(p, x.place(p, 3), (mine >> p & 1) == byPlan);
        }
        long[] paid = new long[places];
        for (int k = 0; k < MOVES; k++) {
            long[] before = paid;
            paid = new long[places];
            for (int p = 0; p < places; p++) {
                paid[p] = chosen(ways[p], before, (mine >> p & 1) == 1);
            }
        }
        return paid;
    }

    private static long chosen(int[] ways, long[] before, boolean mine) {
        long best = before[ways[0]] + ways[1];
        for (int i = 2; i < ways.length; i += 2) {
            long along = before[ways[i]] + ways[i + 1];
            best = mine ? Math.max(best, along) : Math.min(best, along);
        }
        return best;
    }
}
