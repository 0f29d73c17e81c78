/** Promises 1 to 7: a new object, feed, land, fault, place, road, pay. */
public final class LandTest {
    private static final Check CHECK = new Check();

    public static void main(String[] args) {
        newObject();
        feeding();
        readingLands();
        faults();
        depths();
        places();
        roads();
        laws();
        lawsAreKept();
        deepestLaw();
        CHECK.end();
    }

    private static void due(String call, long got, long want) {
        CHECK.due(call, got, want);
    }

    private static void newObject() {
        MeanRoads x = new MeanRoads();
        int[] counts = {1, 0, 0, 0, 0, 1, 0, 0, 0, 0};
        for (int what = 0; what < counts.length; what++) {
            due("new count(" + what + ")", x.count(what), counts[what]);
        }
        due("new fault(0)", x.fault(0), 0);
        due("new fault(1)", x.fault(1), MeanRoads.NONE);
        due("new place(0, 0)", x.place(0, 0), 1);
        due("new place(0, 1)", x.place(0, 1), MeanRoads.NONE);
        due("new place(0, 3)", x.place(0, 3), 16);
        due("NONE", MeanRoads.NONE, -1);
    }

    private static void feeding() {
        MeanRoads x = new MeanRoads();
        for (int i = 1; i <= 45; i++) {
            due("feed " + i, x.feed(0, -1, 2, 3, 4), 20 * i);
        }
        due("feed 46", x.feed(0, 0, 0, 0, 0), -5);
        due("count(8)", x.count(8), 900);
        due("land(901)", x.land(901), -3);
        due("land(-1)", x.land(-1), -3);
        due("count(8) stays", x.count(8), 900);
        due("land(900)", x.land(900), -31);
        due("count(8) is 0", x.count(8), 0);
        // bytes: the highest first
        x = new MeanRoads();
        x.feed(0x6c616e64, 0x20776561, 0x74686572, 0x20373b20, 0x20202020);
        due("land(15)", x.land(15), 1);
        due("count(2)", x.count(2), 7);
    }

    private static void readingLands() {
        MeanRoads x = new MeanRoads();
        due("land(0)", x.land(0), -32);
        due("fault(1) of nothing", x.fault(1), 0);
        due("no places", Check.tell(x, "\nland weather 009;"), 1);
        due("one of mine", x.count(5), 1);
        due("weather", x.count(2), 9);
        due("tight", Check.tell(x, "land weather4;place mine;place yours;road 0 1gains 07;pays:told+1;"), 5);
        due("pay(0)", x.pay(0), 8);
        due("count(5)", x.count(5), 1);
        due("count(9)", x.count(9), 5);
        x.plan(0, 0);
        x.moves(3);
        due("moved", x.count(4), 3);
        due("at 1", x.count(3), 1);
        due("a fault", Check.tell(x, "land weather 1;place mine;place"), -32);
        due("all stays: token", x.count(3), 1);
        due("all stays: moves", x.count(4), 3);
        due("all stays: undo", x.count(7), 2);
        due("all stays: plan", x.place(0, 1), 0);
        due("all stays: purse", x.purse(0), 8);
        due("all stays: weather", x.count(2), 4);
        due("fault(0)", x.fault(0), 2);
        due("fault(1)", x.fault(1), 31);
        due("fault(2)", x.fault(2), -1);
        due("fault(-1)", x.fault(-1), -1);
        x.feed(0, 0, 0, 0, 0);
        due("land too long", x.land(21), -3);
        due("not read: fault(0)", x.fault(0), 2);
        x.land(0);
        due("a new land", Check.tell(x, "land weather 1;place mine;place mine;road 0 1 gains 1;"), 4);
        due("fault(0)", x.fault(0), 0);
        due("fault(1)", x.fault(1), -1);
        due("token", x.count(3), 0);
        due("moves", x.count(4), 0);
        due("undo", x.count(7), 0);
        due("undo(1)", x.undo(1), -3);
        due("plan", x.place(0, 1), -1);
        due("purse", x.purse(0), 0);
    }

    private static void fault(String text, int kind, int place) {
        MeanRoads x = new MeanRoads();
        due("land of " + text, Check.tell(x, text), -30 - kind);
        due("fault(0) of " + text, x.fault(0), kind);
        due("fault(1) of " + text, x.fault(1), place);
        due("count(9) of " + text, x.count(9), 0);
    }

    private static void faults() {
        String land = "land weather 0;";
        String one = "land weather 0;place mine;";
        fault("", 2, 0);
        fault("  \n ", 2, 4);
        fault("Land weather 0;", 1, 0);
        fault("lands weather 0;", 2, 0);
        fault("land wether 0;", 2, 5);
        fault("land weather x;", 2, 13);
        fault("land weather ;", 2, 13);
        fault("land weather 10;", 3, 13);
        fault("land weather 0012;", 1, 13);
        fault("land weather 0 ", 2, 15);
        fault("land weather 0;;", 2, 15);
        fault(land + "\t", 1, 15);
        fault(land + "zz;", 2, 15);
        fault(land + "{", 1, 15);
        fault(land + "`", 1, 15);
        fault(land + (char) 233, 1, 15);
        fault(land + (char) 0, 1, 15);
        fault(land + "place hers;", 2, 21);
        fault(land + "place mine yours;", 2, 26);
        fault(land + "road 0 0 gains 1;", 3, 20);
        fault(one + "road 0 1 gains 1;place mine;", 3, 33);
        fault(one + "road 0 0 gains 100;", 3, 41);
        fault(one + "road 0 0 loses 9999;", 1, 41);
        fault(one + "road 0 0 wins 1;", 2, 35);
        fault(one + "road 0 ; gains 1;", 2, 33);
        fault(one + "road 0 gains 1;", 2, 33);
        fault(one + "road gains 1;", 2, 31);
        fault(one + "road 0 0 gains ;", 2, 41);
        fault(one + "road 0 0 loses;", 2, 40);
        fault(one + "road 5 x gains 1;", 3, 31);
        fault(land + "pays = 1;", 2, 20);
        fault(land + "pays : 1 + ;", 2, 26);
        fault(land + "pays : 1 = 1;", 2, 24);
        fault(land + "pays : 1 2;", 2, 24);
        fault(land + "pays : (1 = 1);", 2, 25);
        fault(land + "pays : not 1 = 1;", 2, 22);
        fault(land + "pays : gains;", 2, 22);
        fault(land + "pays : 1000;", 1, 22);
        fault(land + "pays : if 1 then 1 else 1 end;", 2, 27);
        fault(land + "pays : if 1 = 1 else 1 end;", 2, 31);
        fault(land + "pays : if 1 = 1 then 1 end;", 2, 38);
        fault(land + "open : 1;", 2, 23);
        fault(land + "open : 1 = 1 = 1;", 2, 28);
        fault(land + "open : [1 = 1);", 2, 28);
        fault(land + "open : (1 = 1);", 2, 25);
        fault(land + "open : 1 = 1 or;", 2, 30);
        fault(land + "open : 1 = [1 = 1];", 2, 26);
        fault(land + "open : 1 & 1;", 1, 24);
        String nine = one + "place mine;".repeat(8);
        fault(nine, 4, 103);
        fault(nine.substring(0, 103) + "place ours;", 4, 103);
        fault(nine.substring(0, 103) + "place", 4, 103);
        fault(one + "road 0 0 gains 1;".repeat(16) + "road 9 9;", 4, 26 + 16 * 17);
        MeanRoads x = new MeanRoads();
        due("eight places", Check.tell(x, nine.substring(0, 103)), 9);
        due("sixteen roads", Check.tell(x, one + "road 0 0 gains 1;".repeat(16)), 18);
    }

    private static void depths() {
        String pays = "land weather 0;pays : ";
        String open = "land weather 0;open : ";
        fault(pays + "(((((((1;", 4, 28);
        fault(pays + "((((((if 1 = 1 then 1 else 2 end))))));", 4, 28);
        fault(pays + "((((((not", 2, 28);
        fault(pays + "((((((1)))))) + ((((((1) + ((((((", 4, 50);
        fault(open + "not [not [not [not 1 = 1]]];", 4, 37);
        fault(open + "[[[[[[(1) = 1]]]]]];", 4, 28);
        MeanRoads x = new MeanRoads();
        due("six of (", Check.tell(x, pays + "((((((1)))))) + ((((((2))))));"), 2);
        due("six mixed", Check.tell(x, open + "not [not [if not 1 = 1 then 1 else 2 end = 2]];"), 2);
        fault(open + "not [not [if not (1) = 1 then 1 else 2 end = 2]];", 4, 39);
        due("not ends with its unit", Check.tell(x, open + "not not not 1 = 1 and not not not not not not 1 = 1;"), 2);
    }

    private static void places() {
        MeanRoads x = Check.of("land weather 3;place mine;place yours;road 0 1 gains 1;road 0 0 gains 2;"
            + "road 0 1 loses 3;road 1 0 gains 4;open : road > 0 and not road = weather;");
        long[][] want = {{1, -1, 2, 1}, {0, -1, 0, 16}};
        for (int p = 0; p < 2; p++) {
            for (int what = 0; what < 4; what++) {
                due("place(" + p + ", " + what + ")", x.place(p, what), want[p][what]);
            }
        }
        x.plan(0, 2);
        due("its plan", x.place(0, 1), 2);
        due("way by plan", x.place(0, 3), 2);
        x.plan(0, 0);
        due("plan that is not open", x.place(0, 1), 0);
        due("way by plan, not open", x.place(0, 3), 1);
        due("place(2, 0)", x.place(2, 0), -2);
        due("place(-1, 0)", x.place(-1, 0), -2);
        due("place(0, 4)", x.place(0, 4), -2);
        due("place(0, -1)", x.place(0, -1), -2);
    }

    private static void roads() {
        MeanRoads x = Check.of("land weather 5;place mine;place yours;road 0 1 gains 9;road 1 1 loses 99;"
            + "open : from = 0 or weather > 5;");
        due("road(0, 0)", x.road(0, 0), 0);
        due("road(0, 1)", x.road(0, 1), 1);
        due("road(0, 2)", x.road(0, 2), 1);
        due("road(1, 0)", x.road(1, 0), 1);
        due("road(1, 2)", x.road(1, 2), 0);
        due("pay(1)", x.pay(1), -99);
        x.weather(6);
        due("road(1, 2) by weather 6", x.road(1, 2), 1);
        due("road(2, 0)", x.road(2, 0), -2);
        due("road(-1, 0)", x.road(-1, 0), -2);
        due("road(0, 3)", x.road(0, 3), -2);
        due("road(0, -1)", x.road(0, -1), -2);
        due("pay(2)", x.pay(2), Check.FAR - 2);
        due("pay(-1)", x.pay(-1), Check.FAR - 2);
        due("pay(16)", x.pay(16), Check.FAR - 2);
    }

    private static long paysBy(String law, int weather) {
        MeanRoads x = Check.of("land weather " + weather + ";place mine;place yours;place mine;road 0 0 gains 1;"
            + "road 1 2 loses 7;pays : " + law + ";");
        return x.pay(1);
    }

    private static void laws() {
        due("told", paysBy("told", 0), -7);
        due("from", paysBy("from", 0), 1);
        due("to", paysBy("to", 0), 2);
        due("road", paysBy("road * 10", 0), 10);
        due("weather", paysBy("weather", 8), 8);
        due("left to right", paysBy("10 - 3 - 2", 0), 5);
        due("* binds", paysBy("2 + 3 * 4 - 1", 0), 13);
        due("( )", paysBy("(2 + 3) * 4", 0), 20);
        due("at most 99", paysBy("100", 0), 99);
        due("at least -99", paysBy("0 - 100", 0), -99);
        due("if", paysBy("if weather > 3 then 1 else 2 end", 4), 1);
        due("else", paysBy("if weather > 4 then 1 else 2 end", 4), 2);
        due("or, and", paysBy("if 1 = 1 or 1 = 2 and 1 = 2 then 1 else 2 end", 0), 1);
        due("[ ]", paysBy("if [1 = 1 or 1 = 2] and 1 = 2 then 1 else 2 end", 0), 2);
        due("not", paysBy("if not 1 = 2 and 1 = 2 then 1 else 2 end", 0), 2);
        due("not not", paysBy("if not not 1 < 2 then 1 else 2 end", 0), 1);
        due("later strikes", paysBy("5; pays : told + 1", 0), -6);
    }

    private static void lawsAreKept() {
        // 999 * 999 + 999 + 999 is 999,999
        due("* kept", paysBy("999 * 999 * 999 - 999 * 999 - 999 - 999", 0), 1);
        due("* kept below", paysBy("(0 - 999) * 999 * 999 + 999 * 999 + 999 + 999 - 1", 0), -2);
        due("+ kept", paysBy("999 * 999 + 999 * 999 - 999 * 999 - 999 - 999", 0), 1);
        due("- kept", paysBy("0 - 999 * 999 - 999 * 999 + 999 * 999 + 999 + 999", 0), -1);
    }

    /** The most operands that can wait at once: six ifs, each behind an or, an and, a <, a + and a *. */
    private static void deepestLaw() {
        StringBuilder law = new StringBuilder();
        for (int i = 0; i < 6; i++) {
            law.append("1=2 or 1=1 and 0<0+1*if ");
        }
        law.append("1=2 or 1=1 and 0<0+1*1");
        law.append(" then 1 else 0 end".repeat(6));
        MeanRoads x = Check.of("land weather 0;place mine;road 0 0 gains 1;open:" + law + ";");
        due("deepest law", x.road(0, 2), 1);
        x = Check.of("land weather 0;place mine;road 0 0 gains 1;open:"
            + law.toString().replace("0<0+1*1 then", "1<0+1*1 then") + ";");
        due("deepest law, not", x.road(0, 2), 0);
    }
}
