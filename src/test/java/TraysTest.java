/** Promises 40 to 45: numbers, write, lists, image, restore, count. */
public final class TraysTest {
    private static final Check CHECK = new Check();

    public static void main(String[] args) {
        numbers();
        writing();
        listing();
        images();
        counting();
        CHECK.end();
    }

    private static void due(String call, long got, long want) {
        CHECK.due(call, got, want);
    }

    private static void numbers() {
        MeanRoads x = new MeanRoads();
        due("numbers(4, 0, 0)", x.numbers(4, 0, 0), -2);
        due("numbers(-1, 0, 0)", x.numbers(-1, 0, 0), -2);
        due("numbers(0, 4, 41): the sort first", x.numbers(0, 4, 41), -2);
        due("numbers(0, -1, 0)", x.numbers(0, -1, 0), -2);
        due("numbers(0, 0, 41)", x.numbers(0, 0, 41), -3);
        due("numbers(0, 0, -1)", x.numbers(0, 0, -1), -3);
        due("still missing", x.write(0, 0, 1), -6);
        due("numbers(0, 0, 40)", x.numbers(0, 0, 40), 0);
        due("write(0, 39, 30)", x.write(0, 39, 30), 30);
        due("numbers(0, 3, 41)", x.numbers(0, 3, 41), -3);
        due("the tray stays: its sort", x.write(0, 0, 257), 1);
        due("numbers(0, 2, 2)", x.numbers(0, 2, 2), 0);
        due("write(0, 2, 1)", x.write(0, 2, 1), -7);
        // two deeds 0: no such road here
        due("all 0", x.judge(0, 0), 0);
        x.write(0, 0, 16);
        x.write(0, 1, 16);
        due("16 stays", x.judge(0, 0), -1);
        x.numbers(0, 2, 2);
        due("all 0 again", x.judge(0, 0), 0);
        due("numbers(3, 3, 0)", x.numbers(3, 3, 0), 0);
        due("none there", x.write(3, 0, 1), -7);
        due("other trays are missing", x.write(1, 0, 1), -6);
    }

    private static void writing() {
        MeanRoads x = new MeanRoads();
        due("write(4, 0, 0)", x.write(4, 0, 0), -2);
        due("write(-1, 0, 0)", x.write(-1, 0, 0), -2);
        due("write(0, 0, 0)", x.write(0, 0, 0), -6);
        long v = 0x123456789abcdef0L;
        long[] cut = {(byte) v, (short) v, (int) v, v};
        long[] minus = {128, 32768, 2147483648L, 1};
        long[] kept = {-128, -32768, -2147483648L, 1};
        for (int sort = 0; sort < 4; sort++) {
            x.numbers(sort, sort, 3);
            due("cut to sort " + sort, x.write(sort, 0, v), cut[sort]);
            due("sort " + sort, x.write(sort, 2, minus[sort]), kept[sort]);
            due("-1", x.write(sort, 1, -1), -1);
            due("write(.., 3, 0)", x.write(sort, 3, 0), -7);
            due("write(.., -1, 0)", x.write(sort, -1, 0), -7);
        }
    }

    private static void listing() {
        MeanRoads x = Check.of("land weather 0;place mine;place yours;place mine;road 0 1 loses 5;road 1 2 loses 6;"
            + "road 1 0 gains 1;");
        due("lists(4)", x.lists(4), -2);
        due("lists(-1)", x.lists(-1), -2);
        due("lists(0)", x.lists(0), -6);
        x.numbers(0, 0, 0);
        due("no places", x.lists(0), 0);
        x.numbers(0, 0, 40);
        due("forty", x.lists(0), 40);
        due("nothing is done", x.count(4), 0);
        due("as deeds they can be", x.judge(0, 0), -1);
        due("at 2", x.judge(0, 2), 2);
        due("paid", x.judge(0, 3), 1000000 - 11);
        x.plan(1, 2);
        x.numbers(0, 3, 3);
        due("three", x.lists(0), 3);
        due("at 1", x.judge(0, 2), 1);
        due("paid", x.judge(0, 3), 1000000 - 9);
    }

    private static void images() {
        MeanRoads x = new MeanRoads();
        due("image(2)", x.image(2), -2);
        due("image(-1)", x.image(-1), -2);
        due("restore(2)", x.restore(2), -2);
        due("restore(-1)", x.restore(-1), -2);
        due("restore(0)", x.restore(0), -5);
        due("image(0)", x.image(0), 0);
        due("restore(1)", x.restore(1), -5);
        String land = "land weather 3;place yours;place mine;road 0 1 gains 5;road 1 0 gains 1;road 1 1 gains 9;"
            + "pays : told + weather;open : not road = weather - 4;";
        Check.tell(x, land);
        x.plan(1, 2);
        x.weather(4);
        x.moves(2);
        due("image(1)", x.image(1), 0);
        due("undo is left", x.count(7), 3);
        long worth = x.worth(0, 0);
        x.undo(1);
        x.weather(9);
        x.plan(1, -1);
        due("restore(0)", x.restore(0), 0);
        due("no lines", x.count(9), 0);
        due("no roads", x.count(1), 0);
        due("weather", x.count(2), 0);
        due("worth(0, 0)", x.worth(0, 0), 0);
        due("nothing to undo", x.count(7), 0);
        due("restore(1)", x.restore(1), 0);
        int[] want = {2, 3, 4, 0, 2, 2, 6, 0, 0, 8};
        for (int what = 0; what < want.length; what++) {
            due("restored count(" + what + ")", x.count(what), want[what]);
        }
        due("plan", x.place(1, 1), 2);
        due("pay", x.pay(2), 13);
        due("worth as it was", x.worth(0, 0), worth);
        due("undo(1)", x.undo(1), -3);
        x.move(16);
        due("restore(1) again", x.restore(1), 0);
        due("count(4)", x.count(4), 2);
        // the tape, the fault and trays are in no image
        x.feed(0, 0, 0, 0, 0);
        x.numbers(0, 0, 1);
        x.restore(0);
        due("the tape stays", x.count(8), 20);
        due("the tray stays", x.write(0, 0, 1), 1);
    }

    private static void counting() {
        MeanRoads x = Check.of("land weather 3;place yours;place mine;place mine;road 0 1 gains 5;road 1 0 gains 1;"
            + "road 1 1 gains 9;open : not road = 1;");
        x.moves(4);
        x.weather(5);
        x.feed(1, 2, 3, 4, 5);
        int[] want = {3, 3, 5, 1, 4, 6, 5, 2, 20, 8};
        for (int what = 0; what < want.length; what++) {
            due("count(" + what + ")", x.count(what), want[what]);
        }
        x.numbers(0, 3, 1);
        x.write(0, 0, 26);
        due("one deed", x.perform(0), 1);
        due("it can be undone", x.count(7), 3);
        due("count(10)", x.count(10), -1);
        due("count(-1)", x.count(-1), -1);
    }
}
