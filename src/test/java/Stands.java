/** Objects in the midst of things, for tests that ask whether a call changes something. */
final class Stands {
    /** Places 0 and 2 mine, 1 yours; by weather 2 road 2 isn't open, by weather 4 none is from place 1 but road 3. */
    static final String THREE = "land weather 2;place mine;place yours;place mine;road 0 1 gains 3;road 1 2 loses 5;"
        + "road 0 2 gains 1;road 1 0 gains 7;road 2 2 loses 2;pays : told + weather - 2;"
        + "open : not road = weather and not [weather = 4 and road = 1];";
    private static final String TWO = "land weather 3;place yours;place mine;road 0 1 gains 5;road 1 0 gains 1;"
        + "road 1 1 gains 9;pays : told + weather;open : not road = weather - 4;";

    private Stands() {
    }

    static MeanRoads newOne() {
        return new MeanRoads();
    }

    /** A land, plans, a purse, five calls to undo, both images, trays of three sorts and a missing one, a fault, a tape. */
    static MeanRoads busy() {
        MeanRoads x = Check.of(TWO);
        x.plan(1, 2);
        x.moves(3);
        x.image(0);
        Check.tell(x, THREE);
        x.weather(1);
        x.plan(0, 2);
        x.image(1);
        x.move(0);
        x.weather(2);
        x.plan(1, 3);
        fillTrays(x);
        Check.tell(x, "land weather 10;");
        Check.feed(x, "land weather 6;place yours;place mine;");
        return x;
    }

    private static void fillTrays(MeanRoads x) {
        x.numbers(0, 0, 3);
        x.write(0, 0, 30);
        x.write(0, 1, 25);
        x.write(0, 2, 16);
        x.numbers(1, 1, 0);
        x.numbers(2, 3, 2);
        x.write(2, 0, 103);
        x.write(2, 1, 3107);
    }

    /** The tape is full, ten calls can be undone, a tray has forty numbers. */
    static MeanRoads full() {
        MeanRoads x = Check.of(THREE);
        for (int i = 0; i < 12; i++) {
            x.weather(i % 10);
        }
        x.numbers(3, 2, 40);
        x.write(3, 39, 30);
        Check.feed(x, "land weather 6;place yours;" + " ".repeat(873));
        return x;
    }

    /** No place has an open road. */
    static MeanRoads closed() {
        MeanRoads x = Check.of("land weather 0;place mine;place yours;road 0 1 gains 1;road 1 0 gains 2;open : weather = 1;");
        x.plan(0, 0);
        return x;
    }
}
