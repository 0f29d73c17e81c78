/** The bounds that the terms tell of THE TAPE, THE LAND's text, its TOKENS and FAULTS (promises 2 to 4). */
public final class TextBoundsTest {
    private static final Check CHECK = new Check();
    private static final String LAND = "land weather 0;";
    private static final String SIGNS = ";:+-*()[]=<>";

    public static void main(String[] args) {
        withoutAText();
        tapeTakes900();
        bytesComeHighestFirst();
        bytesComeBehindThoseThere();
        landTakesWhatThereIs();
        firstBytesAlone();
        tapeIsEmptyThen();
        longestText();
        longestLaws();
        linesAreCounted();
        weatherIsOneDigit();
        eachByteAtALine();
        eachByteInAWord();
        blanks();
        tokensGoOn();
        digits();
        endIsTheLength();
        landFirstAndOnce();
        placesAtMostEight();
        noPlacesTold();
        roadsAtMostSixteen();
        roadsLeadToPlacesToldAhead();
        gainsAndLosses();
        laterLawsStrike();
        firstFaultAlongTheText();
        leastKindOfOneToken();
        landBeginsAnew();
        faultOfLatestRead();
        eachTokenMayStandThereAlone();
        CHECK.end();
    }

    private static void due(String call, long got, long want) {
        CHECK.due(call, got, want);
    }

    private static void fault(String text, int kind, int place) {
        MeanRoads x = new MeanRoads();
        due("land of " + text, Check.tell(x, text), -30 - kind);
        due("fault(0) of " + text, x.fault(0), kind);
        due("fault(1) of " + text, x.fault(1), place);
    }

    private static MeanRoads taken(String text, int lines) {
        MeanRoads x = new MeanRoads();
        due("land of " + text, Check.tell(x, text), lines);
        due("fault(0) of " + text, x.fault(0), 0);
        due("fault(1) of " + text, x.fault(1), MeanRoads.NONE);
        due("count(9) of " + text, x.count(9), lines);
        return x;
    }

    private static void withoutAText() {
        MeanRoads x = new MeanRoads();
        due("one PLACE", x.count(0), 1);
        due("of mine", x.place(0, 0), 1);
        due("no other", x.place(1, 0), -2);
        due("no ROADS", x.count(1), 0);
        due("no ROAD 0", x.road(0, 0), -2);
        due("WEATHER 0", x.count(2), 0);
        due("the TOKEN", x.count(3), 0);
        due("the PURSE", x.purse(0), 0);
        due("no PLAN", x.place(0, 1), MeanRoads.NONE);
        due("no LINES", x.count(9), 0);
        due("nothing to undo", x.undo(1), -3);
    }

    private static void tapeTakes900() {
        MeanRoads x = new MeanRoads();
        for (int round = 0; round < 2; round++) {
            due("empty", x.count(8), 0);
            for (int i = 1; i <= 45; i++) {
                due("feed " + i, x.feed(-1, -1, -1, -1, -1), 20 * i);
                due("count(8) behind feed " + i, x.count(8), 20 * i);
            }
            due("feed 46", x.feed(-1, -1, -1, -1, -1), -5);
            due("feed 47", x.feed(0, 0, 0, 0, 0), -5);
            due("full", x.count(8), 900);
            x.land(900);
        }
    }

    /** A byte that begins no token stands at each of the twenty places. */
    private static void bytesComeHighestFirst() {
        for (int i = 0; i < 20; i++) {
            MeanRoads x = new MeanRoads();
            int[] v = new int[5];
            java.util.Arrays.fill(v, 0x20202020);
            v[i / 4] = 0x20202020 ^ 0x01 << 24 - 8 * (i % 4);
            due("feed", x.feed(v[0], v[1], v[2], v[3], v[4]), 20);
            due("byte " + i, x.land(20), -31);
            due("byte " + i + " is", x.fault(1), i);
        }
    }

    private static void bytesComeBehindThoseThere() {
        for (int k = 0; k < 45; k++) {
            MeanRoads x = new MeanRoads();
            for (int i = 0; i < 45; i++) {
                x.feed(0x20202020, 0x20202020, 0x20202020, 0x20202020, i == k ? 0x2020207f : 0x20202020);
            }
            due("feed " + k, x.land(900), -31);
            due("its last byte", x.fault(1), 20 * k + 19);
        }
    }

    private static void landTakesWhatThereIs() {
        for (int feeds : new int[] {0, 1, 2, 44, 45}) {
            int have = 20 * feeds;
            int[] wrong = {-1, have + 1, Integer.MIN_VALUE, Integer.MAX_VALUE};
            for (int n : wrong) {
                MeanRoads x = new MeanRoads();
                Check.feed(x, " ".repeat(have));
                due("land(" + n + ") of " + have, x.land(n), -3);
                due("THE TAPE stays", x.count(8), have);
                due("it was not read", x.fault(0), 0);
            }
            MeanRoads x = new MeanRoads();
            Check.feed(x, " ".repeat(have));
            due("land(" + have + ")", x.land(have), -32);
            due("its end", x.fault(1), have);
            x = new MeanRoads();
            Check.feed(x, " ".repeat(have));
            due("land(0) of " + have, x.land(0), -32);
            due("its end", x.fault(1), 0);
        }
    }

    private static void firstBytesAlone() {
        String text = LAND + "place yours;place mine;";
        int[] ends = {15, 27, 38};
        for (int i = 0; i < ends.length; i++) {
            MeanRoads x = new MeanRoads();
            Check.feed(x, text);
            due("the first " + ends[i], x.land(ends[i]), i + 1);
            due("nothing is left", x.count(8), 0);
        }
        MeanRoads x = new MeanRoads();
        Check.feed(x, text);
        due("one fewer", x.land(37), -32);
        due("at the end", x.fault(1), 37);
    }

    private static void tapeIsEmptyThen() {
        MeanRoads x = new MeanRoads();
        Check.feed(x, LAND + "     " + "zzzzzzzzzzzzzzzzzzzz");
        due("the first 15 of 40", x.land(15), 1);
        due("empty behind a land", x.count(8), 0);
        due("land(1) of none", x.land(1), -3);
        Check.feed(x, "zzzzzzzzzzzzzzzzzzzz");
        due("a fault", x.land(20), -32);
        due("empty behind a fault", x.count(8), 0);
        due("the next is told from the first byte on", Check.tell(x, LAND), 1);
    }

    /** 900 bytes, the last of which counts. */
    private static void longestText() {
        String text = "land weather 7" + "\n".repeat(885) + ";";
        due("bytes", text.length(), 900);
        MeanRoads x = taken(text, 1);
        due("weather", x.count(2), 7);
        fault(text.substring(0, 899), 2, 899);
        fault(text.substring(0, 899) + "!", 1, 899);
        fault(text.substring(0, 899) + "x", 2, 899);
        fault(text.substring(0, 898) + ";2", 2, 899);
    }

    /** Laws that fill the text to its last byte, the last operand of which counts. */
    private static void longestLaws() {
        String land = "land weather 0;place mine;road 0 0 gains 1;";
        String sum = land + "pays:" + "0+".repeat(425) + "7;";
        due("bytes", sum.length(), 900);
        due("the last of a sum", taken(sum, 4).pay(0), 7);
        String product = land + "pays:" + "1*".repeat(425) + "9;";
        due("the last of a product", taken(product, 4).pay(0), 9);
        String both = land + "open:1=1" + " and 1=1".repeat(105);
        due("all hold", taken(both + ";", 4).road(0, 2), 1);
        due("the last doesn't", taken(both.substring(0, both.length() - 1) + "2;", 4).road(0, 2), 0);
        String either = land + "open:1=2" + " or 1=2".repeat(120);
        due("none holds", taken(either + ";", 4).road(0, 2), 0);
        due("the last does", taken(either.substring(0, either.length() - 1) + "1;", 4).road(0, 2), 1);
    }

    private static void linesAreCounted() {
        taken(LAND, 1);
        taken(LAND + "place mine;", 2);
        taken(LAND + "pays:1;pays:2;open:1=1;", 4);
        taken(LAND + "place mine;".repeat(8) + "road 0 7 gains 1;".repeat(16), 25);
        // the most lines there can be: 885 bytes of "pays:1;"
        taken(LAND + "pays:1;".repeat(126), 127);
    }

    private static void weatherIsOneDigit() {
        for (int n = 0; n <= 9; n++) {
            due("weather " + n, taken("land weather " + n + ";", 1).count(2), n);
            due("weather 00" + n, taken("land weather 00" + n + ";", 1).count(2), n);
        }
        for (String n : new String[] {"10", "11", "010", "99", "100", "999"}) {
            fault("land weather " + n + ";", 3, 13);
        }
        fault("land weather -1;", 2, 13);
        fault("land weather 1000;", 1, 13);
        fault("land weather 0000;", 1, 13);
    }

    private static boolean beginsToken(int b) {
        return b >= 'a' && b <= 'z' || b >= '0' && b <= '9' || SIGNS.indexOf(b) >= 0;
    }

    private static boolean isBlank(int b) {
        return b == 10 || b == 32;
    }

    private static void eachByteAtALine() {
        for (int b = 0; b < 256; b++) {
            if (isBlank(b)) {
                taken(LAND + (char) b, 1);
            } else {
                fault(LAND + (char) b, beginsToken(b) ? 2 : 1, 15);
            }
        }
    }

    /** Behind a word a letter goes on with it, any other byte ends it. */
    private static void eachByteInAWord() {
        for (int b = 0; b < 256; b++) {
            String text = LAND + "place mine" + (char) b + ";";
            if (isBlank(b)) {
                taken(text, 2);
            } else if (b >= 'a' && b <= 'z') {
                fault(text, 2, 21);
            } else if (b == ';') {
                fault(text, 2, 26);
            } else {
                fault(text, beginsToken(b) ? 2 : 1, 25);
            }
        }
    }

    private static void blanks() {
        taken("\n land \n weather\n\n9 ;\n", 1);
        due("none needed", taken("land weather9;place mine;road 0 0gains9;pays:told+1*2;", 4).pay(0), 11);
        fault("la nd weather 0;", 2, 0);
        fault("land wea\nther 0;", 2, 5);
        fault(LAND + "pays : 1 2;", 2, 24);
        fault(LAND + "place mine;road 0 0 gains 1 0;", 2, 43);
        for (int b : new int[] {0, 9, 11, 12, 13, 31, 127, 128, 160}) {
            fault("land" + (char) b + "weather 0;", 1, 4);
        }
    }

    private static void tokensGoOn() {
        fault("landweather 0;", 2, 0);
        fault("land weathers 0;", 2, 5);
        fault("land weathe 0;", 2, 5);
        fault(LAND + "placemine;", 2, 15);
        fault(LAND + "plac mine;", 2, 15);
        fault(LAND + "place min;", 2, 21);
        fault(LAND + "place yourss;", 2, 21);
        // a word ends where a number begins, and a number where a word does
        taken("land weather0;place mine;road 0 0gains1;", 3);
        fault("land weather 0x;", 2, 14);
        // signs are of one byte each
        due("two signs", taken(LAND + "place mine;road 0 0 gains 5;pays:((told));", 4).pay(0), 5);
        fault(LAND + "open : 1 <= 1;", 2, 25);
        fault(LAND + "open : 1 == 1;", 2, 25);
    }

    private static void digits() {
        String land = LAND + "place mine;road 0 0 gains 1;pays : ";
        due("one", taken(land + "9;", 4).pay(0), 9);
        due("two", taken(land + "98;", 4).pay(0), 98);
        due("three", taken(land + "098;", 4).pay(0), 98);
        due("three, the most", taken(land + "999 - 901;", 4).pay(0), 98);
        due("three, all 0", taken(land + "000;", 4).pay(0), 0);
        int at = land.length();
        fault(land + "0000;", 1, at);
        fault(land + "1000;", 1, at);
        fault(land + "9999;", 1, at);
        fault(land + "00001;", 1, at);
        fault(land + "1 + 12345678901234567890;", 1, at + 4);
        // a fault ahead of it is told first; so many digits must do no harm
        fault(land + "7".repeat(900 - at), 1, at);
        fault(land + "0".repeat(900 - at), 1, at);
        fault(land + "= " + "7".repeat(50), 2, at);
    }

    private static void endIsTheLength() {
        String[] begun = {"", "land", "land weather", "land weather 0", LAND + "place", LAND + "place mine", LAND + "pays",
            LAND + "pays :", LAND + "pays : 1", LAND + "pays : 1 +", LAND + "pays : (1", LAND + "open : 1", LAND + "open : 1 =",
            LAND + "open : 1 = 1", LAND + "open : not", LAND + "open : [1 = 1", LAND + "pays : if 1 = 1",
            LAND + "pays : if 1 = 1 then 1", LAND + "pays : if 1 = 1 then 1 else 2", LAND + "place mine;road",
            LAND + "place mine;road 0", LAND + "place mine;road 0 0", LAND + "place mine;road 0 0 loses",
            LAND + "place mine;road 0 0 loses 3"};
        for (String text : begun) {
            fault(text, 2, text.length());
            fault(text + " ", 2, text.length() + 1);
            fault(text + "\n  ", 2, text.length() + 3);
        }
    }

    private static void landFirstAndOnce() {
        fault("place mine;land weather 0;", 2, 0);
        fault("weather 0;", 2, 0);
        fault(";" + LAND, 2, 0);
        fault(LAND + LAND, 2, 15);
        fault(LAND + "place mine;" + LAND, 2, 26);
    }

    private static void placesAtMostEight() {
        for (int n = 1; n <= 8; n++) {
            MeanRoads x = taken(LAND + "place mine;".repeat(n - 1) + "place yours;", n + 1);
            due("count(0)", x.count(0), n);
            due("count(5)", x.count(5), (1 << n - 1) - 1);
            due("the last", x.place(n - 1, 0), 0);
            due("behind the last", x.place(n, 0), -2);
        }
        String eight = LAND + "place mine;".repeat(8);
        fault(eight + "place mine;", 4, 103);
        fault(eight + "place", 4, 103);
        fault(eight + "\n  place ours;", 4, 106);
        fault(eight + "road 7 7 gains 1;place yours;", 4, 120);
        fault(eight + "places mine;", 2, 103);
        fault(eight.substring(0, 102) + " place mine;", 2, 103);
    }

    private static void noPlacesTold() {
        MeanRoads x = taken("land weather 4;pays : 1;", 2);
        due("one PLACE", x.count(0), 1);
        due("of mine", x.count(5), 1);
        due("no ROADS", x.count(1), 0);
        due("one of yours alone", taken(LAND + "place yours;", 2).count(5), 0);
        fault(LAND + "road 0 0 gains 1;", 3, 20);
    }

    private static void roadsAtMostSixteen() {
        String land = LAND + "place mine;";
        for (int n = 0; n <= 16; n++) {
            MeanRoads x = taken(land + "road 0 0 gains 1;".repeat(n), n + 2);
            due("count(1)", x.count(1), n);
            due("count(6)", x.count(6), (1 << n) - 1);
            due("behind the last", x.road(n, 0), -2);
            if (n > 0) {
                due("the last", x.road(n - 1, 0), 0);
            }
        }
        String sixteen = land + "road 0 0 gains 1;".repeat(16);
        int at = sixteen.length();
        fault(sixteen + "road 0 0 gains 1;", 4, at);
        fault(sixteen + "road", 4, at);
        fault(sixteen + "pays : road;road 9 9 gains 100;", 4, at + 12);
        fault(sixteen + "roads 0 0 gains 1;", 2, at);
        taken(sixteen + "place mine;pays : road;", 20);
    }

    private static void roadsLeadToPlacesToldAhead() {
        for (int n = 1; n <= 8; n++) {
            String land = LAND + "place mine;".repeat(n);
            int at = land.length() + 5;
            MeanRoads x = taken(land + "road " + (n - 1) + " 0 gains 1;road 0 " + (n - 1) + " gains 1;", n + 3);
            due("from", x.road(0, 0), n - 1);
            due("to", x.road(1, 1), n - 1);
            fault(land + "road " + n + " 0 gains 1;", 3, at);
            fault(land + "road 0 " + n + " gains 1;", 3, at + 2);
            fault(land + "road 0 999 gains 1;", 3, at + 2);
            if (n < 8) {
                fault(land + "road 0 " + n + " gains 1;place mine;", 3, at + 2);
                taken(land + "place mine;road 0 " + n + " gains 1;", n + 3);
            }
        }
        MeanRoads x = taken(LAND + "place mine;place mine;road 1 1 gains 1;", 4);
        due("one and the same", x.road(0, 0) + x.road(0, 1), 2);
    }

    private static void gainsAndLosses() {
        String land = LAND + "place mine;road 0 0 ";
        int[] much = {0, 1, 98, 99};
        for (int n : much) {
            due("gains " + n, taken(land + "gains " + n + ";", 3).pay(0), n);
            due("loses " + n, taken(land + "loses " + n + ";", 3).pay(0), -n);
        }
        for (String n : new String[] {"100", "101", "999"}) {
            fault(land + "gains " + n + ";", 3, land.length() + 6);
            fault(land + "loses " + n + ";", 3, land.length() + 6);
        }
        fault(land + "gains 0099;", 1, land.length() + 6);
        fault(land + "loses -1;", 2, land.length() + 6);
    }

    private static void laterLawsStrike() {
        String land = LAND + "place mine;road 0 0 gains 1;";
        due("pays twice", taken(land + "pays : 5;pays : 6;", 5).pay(0), 6);
        due("pays three times", taken(land + "pays : 5;pays : 1 + 2 + 3;pays : 7;", 6).pay(0), 7);
        due("pays a hundred times", taken(land + "pays:5;".repeat(99) + "pays:8;", 103).pay(0), 8);
        due("open sixty times", taken(land + "open:1=1;".repeat(59) + "open:1=2;", 63).road(0, 2), 0);
        due("open, then not", taken(land + "open : 1 = 1;open : 1 = 2;", 5).road(0, 2), 0);
        due("not, then open", taken(land + "open : 1 = 2;open : 1 = 1;", 5).road(0, 2), 1);
        MeanRoads x = taken(LAND + "pays : 9;open : road = 1;place mine;road 0 0 gains 1;road 0 0 gains 2;", 6);
        due("laws told ahead of roads", x.pay(1), 9);
        due("open told ahead of roads", x.count(6), 2);
        x = new MeanRoads();
        Check.tell(x, land + "pays : 5;open : 1 = 2;");
        Check.tell(x, land);
        due("a new land has no law of the old one: pays", x.pay(0), 1);
        due("a new land has no law of the old one: open", x.road(0, 2), 1);
    }

    private static void firstFaultAlongTheText() {
        fault(LAND + "place ; ! 9999", 2, 21);
        fault(LAND + "place mine; ! place ;", 1, 27);
        fault("land weather 10; !", 3, 13);
        fault(LAND + "place mine;".repeat(9) + "!", 4, 103);
        fault(LAND + "place mine;road 0 1 gains 100;", 3, 33);
        fault(LAND + "place mine;road 0 0 gains 100 !", 3, 41);
    }

    private static void leastKindOfOneToken() {
        // no token, where it couldn't stand, either
        fault("1234", 1, 0);
        fault(LAND + "place mine 1234;", 1, 26);
        // no token, where a number would be out of its bounds
        fault("land weather 1234;", 1, 13);
        // out of its bounds, where no number can stand
        fault(LAND + "place mine;road 0 0 999 gains 1;", 2, 35);
        fault("100 land", 2, 0);
        // a ninth place, a seventeenth road, a seventh of ( where they can't stand
        fault(LAND + "place mine;".repeat(8) + "pays : place;", 2, 110);
        String sixteen = LAND + "place mine;" + "road 0 0 gains 1;".repeat(16);
        fault(sixteen + "place road;", 2, sixteen.length() + 6);
        taken(sixteen + "pays : road;", 19);
        fault(LAND + "pays : ((((((1 (", 2, 30);
        fault(LAND + "pays : ((((((not 1 = 1", 2, 28);
        fault(LAND + "pays : (((((([", 2, 28);
        fault(LAND + "open : [[[[[[1 = not", 2, 32);
        fault(LAND + "open : [[[[[[1 if", 2, 30);
    }

    private static void landBeginsAnew() {
        MeanRoads x = taken(LAND + "place mine;place mine;road 0 1 gains 5;road 1 1 gains 2;", 5);
        x.plan(0, 0);
        x.plan(1, 1);
        x.weather(8);
        x.moves(3);
        due("the TOKEN", x.count(3), 1);
        due("the PURSE", x.purse(0), 9);
        due("a new land", Check.tell(x, "land weather 4;place mine;place mine;road 1 0 gains 5;road 0 0 gains 6;"), 5);
        due("the TOKEN lies on PLACE 0", x.count(3), 0);
        due("the PURSE is 0", x.purse(0), 0);
        due("MOVES", x.count(4), 0);
        due("WEATHER", x.count(2), 4);
        due("no PLANS, 0", x.place(0, 1), MeanRoads.NONE);
        due("no PLANS, 1", x.place(1, 1), MeanRoads.NONE);
        due("nothing can be UNDONE", x.count(7), 0);
        due("undo(1)", x.undo(1), -3);
        due("open from 0", x.place(0, 2), 1);
        due("open from 1", x.place(1, 2), 1);
        due("a land without roads", Check.tell(x, LAND + "place mine;place yours;"), 3);
        due("none is open", x.count(6), 0);
        due("none from 1", x.place(1, 2), 0);
        due("none there", x.road(0, 0), -2);
    }

    private static void faultOfLatestRead() {
        MeanRoads x = new MeanRoads();
        due("at first", x.fault(0), 0);
        due("at first", x.fault(1), -1);
        Check.tell(x, "land weather 0;!");
        due("land(21)", x.land(21), -3);
        due("not read, so that of the one before", x.fault(0), 1);
        due("its place", x.fault(1), 15);
        Check.tell(x, LAND);
        due("good", x.fault(0), 0);
        due("good", x.fault(1), -1);
        CHECK.bounds("fault", 0, 1, -1, v -> {
            MeanRoads y = new MeanRoads();
            Check.tell(y, "land weather 0;!");
            return y.fault(v);
        });
    }

    /** Each token of the language at a place where only one other can stand. */
    private static void eachTokenMayStandThereAlone() {
        String[] all = {"land", "weather", "place", "mine", "yours", "road", "gains", "loses", "pays", "open", "if", "then",
            "else", "end", "told", "from", "to", "not", "and", "or", ";", ":", "+", "-", "*", "(", ")", "[", "]", "=", "<", ">",
            "5"};
        alone(all, "", "land");
        alone(all, "land ", "weather");
        alone(all, "land weather ", "5");
        alone(all, "land weather 0 ", ";");
        alone(all, LAND, "place road pays open");
        alone(all, LAND + "place ", "mine yours");
        alone(all, LAND + "place mine ", ";");
        alone(all, LAND + "place mine;place mine;place mine;place mine;place mine;place mine;road ", "5");
        alone(all, LAND + "place mine;road 0 0 ", "gains loses");
        alone(all, LAND + "place mine;road 0 0 gains ", "5");
        alone(all, LAND + "place mine;road 0 0 gains 5 ", ";");
        alone(all, LAND + "pays ", ":");
        alone(all, LAND + "pays : ", "5 ( if told from to road weather");
        alone(all, LAND + "pays : 5 ", "+ - * ;");
        alone(all, LAND + "pays : (5 ", "+ - * )");
        alone(all, LAND + "open ", ":");
        alone(all, LAND + "open : ", "5 ( if told from to road weather not [");
        alone(all, LAND + "open : 5 ", "+ - * = < >");
        alone(all, LAND + "open : 5 = ", "5 ( if told from to road weather");
        alone(all, LAND + "open : 5 = 5 ", "+ - * and or ;");
        alone(all, LAND + "open : [5 = 5 ", "+ - * and or ]");
        alone(all, LAND + "open : [5 = 5] ", "and or ;");
        alone(all, LAND + "open : not ", "5 ( if told from to road weather not [");
        alone(all, LAND + "open : 5 = 5 and ", "5 ( if told from to road weather not [");
        alone(all, LAND + "pays : if 5 = 5 ", "+ - * and or then");
        alone(all, LAND + "pays : if 5 = 5 then 5 ", "+ - * else");
        alone(all, LAND + "pays : if 5 = 5 then 5 else 5 ", "+ - * end");
        alone(all, LAND + "pays : if 5 = 5 then 5 else 5 end ", "+ - * ;");
    }

    /** A token that can stand there is followed by the fault of what comes next. */
    private static void alone(String[] all, String ahead, String can) {
        for (String token : all) {
            boolean may = (" " + can + " ").contains(" " + token + " ");
            MeanRoads x = new MeanRoads();
            due(ahead + token, Check.tell(x, ahead + token + " !"), may ? -31 : -32);
            due("place in " + ahead + token, x.fault(1), may ? ahead.length() + token.length() + 1 : ahead.length());
        }
    }
}
