/** The bounds of promises 40 to 45: trays and their sorts, lists, images, counts. */
public final class TrayBoundsTest {
    private static final Check CHECK = new Check();
    private static final int NONE = MeanRoads.NONE;

    public static void main(String[] args) {
        traysSortsAndNumbers();
        placesOfTrays();
        numbersAreAllNothing();
        traysAreApart();
        cutTo8();
        cutTo16();
        cutTo32();
        cutTo64();
        listsAsManyAsThereAre();
        listsInEachSort();
        listsFromNowOn();
        imagesZeroToOne();
        imagesAreApart();
        imagesAreMadeAnew();
        imagesHoldAll();
        imagesHoldNoMore();
        nothingToUndoBehind();
        countsZeroToNine();
        countsOfFull();
        CHECK.end();
    }

    private static void due(String call, long got, long want) {
        CHECK.due(call, got, want);
    }

    private static void traysSortsAndNumbers() {
        CHECK.bounds("numbers, tray", 0, 3, -2, v -> new MeanRoads().numbers(v, 0, 1));
        CHECK.bounds("numbers, sort", 0, 3, -2, v -> new MeanRoads().numbers(0, v, 1));
        CHECK.bounds("numbers, n", 0, 40, -3, v -> new MeanRoads().numbers(0, 0, v));
        CHECK.bounds("judge", 0, 3, -2, v -> new MeanRoads().judge(v, 0));
        CHECK.bounds("judge, what", 0, 3, -2, v -> new MeanRoads().judge(0, v));
        CHECK.bounds("perform", 0, 3, -2, v -> new MeanRoads().perform(v));
        CHECK.bounds("weathers", 0, 3, -2, v -> new MeanRoads().weathers(v));
        CHECK.bounds("ask", 0, 3, -2, v -> new MeanRoads().ask(v));
        CHECK.bounds("write", 0, 3, -2, v -> new MeanRoads().write(v, 0, 0));
        CHECK.bounds("lists", 0, 3, -2, v -> new MeanRoads().lists(v));
        for (int tray = 0; tray < 4; tray++) {
            for (int sort = 0; sort < 4; sort++) {
                for (int n = 0; n <= 40; n++) {
                    due("numbers(" + tray + ", " + sort + ", " + n + ")", new MeanRoads().numbers(tray, sort, n), 0);
                }
            }
        }
    }

    private static void placesOfTrays() {
        for (int n = 1; n <= 40; n++) {
            int size = n;
            CHECK.bounds("write, i of " + n, 0, n - 1, -7, v -> {
                MeanRoads x = new MeanRoads();
                x.numbers(2, 3, size);
                return x.write(2, v, 5);
            });
        }
        MeanRoads x = new MeanRoads();
        x.numbers(2, 3, 0);
        for (int i = -1; i <= 40; i++) {
            due("write(2, " + i + ", 5) of none", x.write(2, i, 5), -7);
        }
    }

    /** Where each number is 16, all can be; a 0 among them can't, as there are no roads. */
    private static void numbersAreAllNothing() {
        for (int i = 0; i < 40; i++) {
            MeanRoads x = new MeanRoads();
            x.numbers(0, 0, 40);
            for (int k = 0; k < 40; k++) {
                x.write(0, k, 16);
            }
            due("all 16", x.judge(0, 0), NONE);
            x.numbers(0, 0, 40);
            for (int k = 0; k < 40; k++) {
                if (k != i) {
                    x.write(0, k, 16);
                }
            }
            due("number " + i + " is 0 again", x.judge(0, 0), i);
        }
        // fewer, then more: those behind are 0, too
        MeanRoads x = new MeanRoads();
        x.numbers(0, 2, 3);
        x.write(0, 2, 16);
        x.numbers(0, 2, 1);
        x.write(0, 0, 16);
        due("one", x.judge(0, 0), NONE);
        due("it has one place", x.write(0, 1, 16), -7);
        x.numbers(0, 2, 3);
        x.write(0, 0, 16);
        x.write(0, 1, 16);
        due("the third is 0", x.judge(0, 0), 2);
    }

    private static void traysAreApart() {
        MeanRoads x = new MeanRoads();
        for (int tray = 0; tray < 4; tray++) {
            due("missing, " + tray, x.write(tray, 0, 1), -6);
            x.numbers(tray, 3 - tray, tray + 1);
            for (int i = 0; i <= tray; i++) {
                x.write(tray, i, 16);
            }
        }
        long v = 0x1_0001_0101L;
        long[] cut = {v, 0x10101, 0x101, 1};
        for (int tray = 0; tray < 4; tray++) {
            due("each its own numbers", x.judge(tray, 0), NONE);
            due("each its own size", x.write(tray, tray + 1, 1), -7);
            due("each its own sort", x.write(tray, tray, v), cut[tray]);
        }
    }

    private static void cut(int sort, long v, long want) {
        MeanRoads x = new MeanRoads();
        x.numbers(1, sort, 1);
        due("write(1, 0, " + v + ") of sort " + sort, x.write(1, 0, v), want);
    }

    private static void cutTo8() {
        long[] v = {0, 1, 127, 128, 129, 255, 256, 257, 383, 384, -1, -127, -128, -129, -256, -257, Long.MIN_VALUE, Long.MAX_VALUE};
        long[] want = {0, 1, 127, -128, -127, -1, 0, 1, 127, -128, -1, -127, -128, 127, 0, -1, 0, -1};
        for (int i = 0; i < v.length; i++) {
            cut(0, v[i], want[i]);
        }
    }

    private static void cutTo16() {
        long[] v = {0, 128, 32767, 32768, 65535, 65536, 65537, -1, -32768, -32769, -65537, Long.MIN_VALUE, Long.MAX_VALUE};
        long[] want = {0, 128, 32767, -32768, -1, 0, 1, -1, -32768, 32767, -1, 0, -1};
        for (int i = 0; i < v.length; i++) {
            cut(1, v[i], want[i]);
        }
    }

    private static void cutTo32() {
        long[] v = {0, 32768, 2147483647L, 2147483648L, 4294967295L, 4294967296L, 4294967297L, -1, -2147483648L, -2147483649L,
            Long.MIN_VALUE, Long.MAX_VALUE};
        long[] want = {0, 32768, 2147483647L, -2147483648L, -1, 0, 1, -1, -2147483648L, 2147483647L, 0, -1};
        for (int i = 0; i < v.length; i++) {
            cut(2, v[i], want[i]);
        }
    }

    private static void cutTo64() {
        long[] all = {0, 2147483648L, -2147483649L, 1L << 62, -2, -6, -7, Long.MIN_VALUE, Long.MAX_VALUE};
        for (long v : all) {
            cut(3, v, v);
        }
    }

    /** Ways 0 and 1 by turns, each of which pays otherwise, so that the purse tells them. */
    private static void listsAsManyAsThereAre() {
        for (int n = 0; n <= 40; n++) {
            MeanRoads x = Check.of("land weather 0;place mine;place mine;road 0 1 gains 3;road 1 0 loses 1;");
            x.numbers(2, 1, n);
            due("lists of " + n, x.lists(2), n);
            due("all can be", x.judge(2, 0), NONE);
            due("where they lead", x.judge(2, 2), n % 2);
            due("what they pay", x.judge(2, 3), 1000000 + (n + 1) / 2 * 3 - n / 2);
            due("nothing is done", x.count(4) + x.count(7), 0);
        }
    }

    private static void listsInEachSort() {
        for (int sort = 0; sort < 4; sort++) {
            StringBuilder land = new StringBuilder("land weather 0;place mine;place yours;" + "road 1 1 gains 1;".repeat(15));
            MeanRoads x = Check.of(land + "road 0 1 gains 9;");
            x.plan(1, 14);
            x.numbers(0, sort, 3);
            due("lists", x.lists(0), 3);
            due("15, 14, 14", x.judge(0, 3), 1000011);
            due("write answers as it is there", x.write(0, 0, 15), 15);
            MeanRoads y = new MeanRoads();
            y.numbers(0, sort, 2);
            due("staying", y.lists(0), 2);
            due("16, 16", y.judge(0, 0), NONE);
        }
    }

    private static void listsFromNowOn() {
        MeanRoads x = Check.of("land weather 0;place mine;place mine;place mine;road 0 1 gains 1;road 1 2 gains 2;road 2 0 gains 4;"
            + "open : not road = weather - 1;");
        x.moves(1);
        x.numbers(0, 0, 2);
        x.lists(0);
        due("1, 2", x.judge(0, 3), 1000007);
        x.weather(3);
        x.lists(0);
        due("1, 16", x.judge(0, 3), 1000003);
        due("as they are now", x.judge(0, 0), NONE);
        x.weather(0);
        due("not as they were then", x.judge(0, 0), 1);
    }

    private static void imagesZeroToOne() {
        CHECK.bounds("image", 0, 1, -2, v -> new MeanRoads().image(v));
        CHECK.bounds("restore, none made", 0, 1, -2, v -> new MeanRoads().restore(v));
        for (int i = 0; i < 2; i++) {
            MeanRoads x = new MeanRoads();
            due("none was made", x.restore(i), -5);
            due("made", x.image(i), 0);
            due("restored", x.restore(i), 0);
            due("restored again", x.restore(i), 0);
            due("the other was not", x.restore(1 - i), -5);
        }
    }

    private static void imagesAreApart() {
        MeanRoads x = Check.of("land weather 1;place mine;road 0 0 gains 1;");
        x.image(0);
        Check.tell(x, "land weather 2;place yours;place mine;road 1 1 gains 2;road 0 1 gains 3;");
        x.image(1);
        Check.tell(x, "land weather 3;place mine;place mine;place mine;");
        for (int round = 0; round < 2; round++) {
            due("restore(0)", x.restore(0), 0);
            due("its weather", x.count(2), 1);
            due("its places", x.count(0), 1);
            due("its lines", x.count(9), 3);
            x.moves(5);
            x.weather(8);
            due("restore(1)", x.restore(1), 0);
            due("its weather", x.count(2), 2);
            due("its places", x.count(0), 2);
            due("its mine", x.count(5), 2);
            due("its lines", x.count(9), 5);
            due("its purse", x.purse(0), 0);
            x.move(1);
        }
    }

    private static void imagesAreMadeAnew() {
        MeanRoads x = Check.of("land weather 1;place mine;road 0 0 gains 1;");
        x.image(0);
        x.moves(7);
        x.image(0);
        x.moves(9);
        x.restore(0);
        due("the later one", x.count(4), 7);
        x.moves(1);
        x.restore(0);
        due("and it is left as it was", x.count(4), 7);
    }

    private static void imagesHoldAll() {
        String land = "land weather 3;place yours;place mine;road 0 1 gains 5;road 1 0 gains 1;road 1 1 gains 9;"
            + "pays : told + weather;open : not road = weather - 4;";
        MeanRoads x = Check.of(land);
        x.plan(0, 0);
        x.plan(1, 2);
        x.weather(5);
        x.moves(3);
        String as = told(x);
        x.image(1);
        Check.tell(x, "land weather 0;place mine;");
        x.moves(2);
        x.restore(1);
        CHECK.holds("that all is as it was", told(x).equals(as));
        x.weather(4);
        due("its laws hold by each weather: pay", x.pay(2), 13);
        due("its laws hold by each weather: open", x.count(6), 6);
        due("a faulty text changes no image", Check.tell(x, "land weather 0;place"), -32);
        x.restore(1);
        CHECK.holds("that all is as it was behind a fault", told(x).equals(as));
    }

    private static String told(MeanRoads x) {
        StringBuilder all = new StringBuilder();
        int[] whats = {0, 1, 2, 3, 4, 5, 6, 9};
        for (int what : whats) {
            all.append(x.count(what)).append(' ');
        }
        for (int p = 0; p < 2; p++) {
            all.append(x.place(p, 0)).append(' ').append(x.place(p, 1)).append(' ').append(x.worth(p, 0)).append(' ');
        }
        for (int r = 0; r < 3; r++) {
            all.append(x.road(r, 0)).append(' ').append(x.road(r, 1)).append(' ').append(x.pay(r)).append(' ');
        }
        return all.append(x.purse(0)).append(' ').append(x.purse(9)).toString();
    }

    /** The tape, the fault, trays and the other image are as they are. */
    private static void imagesHoldNoMore() {
        MeanRoads x = Check.of("land weather 0;place mine;");
        x.image(0);
        Check.tell(x, "land weather 0;!");
        Check.feed(x, "land weather 7;");
        x.numbers(0, 1, 1);
        x.write(0, 0, 27);
        x.restore(0);
        due("fault(0)", x.fault(0), 1);
        due("fault(1)", x.fault(1), 15);
        due("the tape", x.count(8), 20);
        due("a tray", x.perform(0), 1);
        due("its deed", x.count(2), 7);
        due("the tape's text", x.land(20), 1);
        due("its weather", x.count(2), 7);
    }

    private static void nothingToUndoBehind() {
        MeanRoads x = Check.of("land weather 0;place mine;road 0 0 gains 1;");
        x.moves(1);
        x.moves(2);
        x.image(0);
        due("an image takes nothing", x.count(7), 2);
        x.moves(3);
        due("three", x.count(7), 3);
        x.restore(0);
        due("none", x.count(7), 0);
        due("undo(1)", x.undo(1), -3);
        due("as it was", x.count(4), 3);
        x.moves(4);
        due("one again", x.undo(1), 0);
        due("back to the image", x.count(4), 3);
        x.moves(5);
        Check.tell(x, "land weather 0;place mine;");
        due("none behind a land", x.undo(1), -3);
    }

    private static void countsZeroToNine() {
        int[] wrong = {-1, 10, 11, Integer.MIN_VALUE, Integer.MAX_VALUE};
        for (int what : wrong) {
            due("count(" + what + ")", new MeanRoads().count(what), NONE);
        }
        int[] want = {1, 0, 0, 0, 0, 1, 0, 0, 0, 0};
        for (int what = 0; what <= 9; what++) {
            due("count(" + what + ") of a new object", new MeanRoads().count(what), want[what]);
        }
    }

    private static void countsOfFull() {
        MeanRoads x = Check.of("land weather 9;" + "place mine;".repeat(8) + "road 0 7 gains 1;".repeat(15) + "road 7 7 gains 1;");
        for (int i = 0; i < 11; i++) {
            x.moves(99);
        }
        Check.feed(x, " ".repeat(900));
        int[] want = {8, 16, 9, 7, 1089, 255, 65535, 10, 900, 25};
        for (int what = 0; what <= 9; what++) {
            due("count(" + what + ") of a full object", x.count(what), want[what]);
        }
    }
}
