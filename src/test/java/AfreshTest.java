/** What was told, asked or done before leaves nothing behind: a used object answers as a new one in the same state. */
public final class AfreshTest {
    private static final Check CHECK = new Check();
    private static final String[] LANDS = {
        "land weather 0;",
        "land weather 0;place yours;",
        "land weather 0;place mine;road 0 0 gains 7;",
        "land weather 0;place mine;place yours;road 0 0 gains 1;road 0 1 gains 4;road 1 0 gains 6;road 1 1 gains 2;"
            + "pays : told * (weather + 1) - weather * 3;",
        "land weather 0;place yours;place mine;road 1 1 loses 1;road 1 0 loses 4;road 0 1 gains 3;road 0 0 gains 1;"
            + "open : not road = weather;",
        "land weather 0;place mine;place yours;place mine;road 0 1 gains 3;road 1 2 loses 5;road 0 2 gains 1;road 1 0 gains 7;"
            + "road 2 2 loses 2;pays : told + weather - 2;open : not road = weather and not [weather = 4 and road = 1];",
        "land weather 0;place yours;place mine;place yours;place mine;place mine;road 4 3 gains 9;road 3 2 loses 8;"
            + "road 2 1 gains 7;road 1 0 loses 6;road 0 4 gains 5;road 0 0 loses 4;road 1 1 gains 3;road 2 4 loses 2;"
            + "pays : if weather = road then 0 - told else told end;open : not road = 9 - weather;",
        "land weather 0;place mine;place mine;place yours;place yours;place mine;place mine;place yours;place yours;"
            + "road 0 1 gains 1;road 1 2 loses 2;road 2 3 gains 3;road 3 4 loses 4;road 4 5 gains 5;road 5 6 loses 6;"
            + "road 6 7 gains 7;road 7 0 loses 8;road 0 4 gains 9;road 1 5 loses 10;road 2 6 gains 11;road 3 7 loses 12;"
            + "road 4 0 gains 13;road 5 1 loses 14;road 6 2 gains 15;road 7 3 loses 16;pays : told - weather;"
            + "open : road > weather or from = 0;"};

    public static void main(String[] args) {
        behindAnotherLand();
        behindAnotherWeather();
        behindUndoing();
        behindAnImage();
        behindAFault();
        behindMoves();
        CHECK.end();
    }

    private static void same(String what, MeanRoads used, MeanRoads fresh) {
        String got = answers(used);
        String want = answers(fresh);
        if (!got.equals(want)) {
            System.out.println(got + "\n" + want);
        }
        CHECK.holds(what, got.equals(want));
    }

    private static String told(String land, int weather) {
        return land.replaceFirst("weather 0", "weather " + weather);
    }

    private static void behindAnotherLand() {
        for (String first : LANDS) {
            for (String second : LANDS) {
                MeanRoads x = Check.of(first);
                x.plays(1);
                x.plays(0);
                x.moves(5);
                answers(x);
                CHECK.holds("that it is read", Check.tell(x, second) > 0);
                same(second + " behind " + first, x, Check.of(second));
                CHECK.due("nothing can be undone", x.undo(1), -3);
            }
        }
    }

    private static void behindAnotherWeather() {
        for (String land : LANDS) {
            for (int w = 0; w <= 9; w++) {
                MeanRoads x = Check.of(told(land, 9 - w));
                answers(x);
                x.weather(w);
                same(land + " by weather " + w, x, Check.of(told(land, w)));
            }
        }
    }

    private static void behindUndoing() {
        for (String land : LANDS) {
            for (int w = 1; w <= 9; w += 4) {
                MeanRoads x = Check.of(land);
                x.weather(w);
                x.journey(w, 40);
                x.plays(1);
                answers(x);
                CHECK.holds("that it is undone", x.undo(x.count(7)) == 0);
                same(land + " behind undoing", x, Check.of(land));
            }
        }
    }

    private static void behindAnImage() {
        for (String first : LANDS) {
            for (String second : LANDS) {
                MeanRoads x = Check.of(first);
                x.image(1);
                Check.tell(x, second);
                x.moves(2);
                answers(x);
                CHECK.due("restore", x.restore(1), 0);
                same(first + " restored behind " + second, x, Check.of(first));
            }
        }
    }

    private static void behindAFault() {
        for (String land : LANDS) {
            for (String other : LANDS) {
                MeanRoads x = Check.of(land);
                Check.tell(x, other + "pays : 9;open : 1 = 2;!");
                same(land + " behind a fault", x, Check.of(land));
                x.weather(3);
                x.weather(0);
                same(land + " behind a fault, by weather 3 and again 0", x, Check.of(land));
            }
        }
    }

    /** Plans and moves told one by one on a new object are as those come to by other calls. */
    private static void behindMoves() {
        for (String land : LANDS) {
            MeanRoads x = Check.of(land);
            answers(x);
            x.plays(1);
            x.plays(0);
            x.moves(7);
            MeanRoads y = Check.of(land);
            for (int p = 0; p < y.count(0); p++) {
                y.plan(p, x.place(p, 1));
            }
            for (int i = 0; i < 7; i++) {
                y.move(y.place(y.count(3), 3));
            }
            same(land + " behind moves", x, y);
        }
    }

    private static String answers(MeanRoads x) {
        StringBuilder all = new StringBuilder();
        int[] whats = {0, 1, 2, 3, 4, 5, 6, 9};
        for (int what : whats) {
            all.append(x.count(what)).append(' ');
        }
        all.append(x.rings()).append(' ').append(x.onRing(0)).append(' ').append(x.onRing(1)).append(' ').append(x.meet());
        for (int i = 0; i < 2; i++) {
            all.append(' ').append(x.round(i)).append(' ').append(x.chance(3, i)).append(' ').append(x.mean(3, i));
        }
        all.append(' ').append(x.sums(4)).append(' ').append(x.rows(3, 2)).append(' ').append(x.purse(0)).append(' ')
            .append(x.purse(77)).append(' ').append(x.at(77)).append(' ').append(x.paid(50)).append(' ').append(x.wins(0));
        for (int p = 0; p < x.count(0); p++) {
            answersFrom(x, p, all.append("  "));
        }
        for (int r = 0; r < x.count(1); r++) {
            all.append("  ").append(x.road(r, 0)).append(' ').append(x.road(r, 1)).append(' ').append(x.pay(r));
        }
        return all.toString();
    }

    private static void answersFrom(MeanRoads x, int p, StringBuilder all) {
        all.append(x.place(p, 1)).append(' ').append(x.place(p, 2)).append(' ').append(x.place(p, 3)).append(' ')
            .append(x.ring(p, 0, 0)).append(' ').append(x.ring(p, 1, 0)).append(' ').append(x.reach(p)).append(' ')
            .append(x.worth(p, 0)).append(' ').append(x.best(p)).append(' ').append(x.secures(0, p, 0)).append(' ')
            .append(x.secures(1, p, 0)).append(' ').append(x.plans(0, p)).append(' ').append(x.plans(1, p)).append(' ')
            .append(x.energy(p)).append(' ').append(x.sumsAt(p, 3));
    }
}
