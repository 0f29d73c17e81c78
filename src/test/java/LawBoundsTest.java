/** The bounds of laws: six of not [ ( if within one another, what + - * are kept to, a road's pay, comparisons (promises 3, 6, 7). */
public final class LawBoundsTest {
    private static final Check CHECK = new Check();
    private static final String LAND = "land weather 4;place mine;road 0 0 gains 3;";
    /** 999,999: one below the greatest that + - * tell. */
    private static final String NEARLY = "(999 * 999 + 999 + 999)";

    public static void main(String[] args) {
        sixOfEachKind();
        sixOfIfInEachPart();
        sixOfAllKinds();
        besideOneAnother();
        notHoldsItsUnitAlone();
        payIsKept();
        toldPayIsNot();
        plusIsKept();
        minusIsKept();
        timesIsKept();
        keptAtEachStep();
        keptBothAtOnce();
        comparing();
        truths();
        choosing();
        eachName();
        openByWeather();
        CHECK.end();
    }

    private static void due(String call, long got, long want) {
        CHECK.due(call, got, want);
    }

    private static long pays(String law) {
        return Check.of(LAND + "pays : " + law + ";").pay(0);
    }

    private static long holds(String law) {
        return Check.of(LAND + "open : " + law + ";").road(0, 2);
    }

    private static void tooDeep(String law, String text, int place) {
        MeanRoads x = new MeanRoads();
        String ahead = LAND + law + " : ";
        due("land of " + text, Check.tell(x, ahead + text + ";"), -34);
        due("fault(1) of " + text, x.fault(1), ahead.length() + place);
    }

    private static String within(String begin, String inner, String end, int times) {
        return begin.repeat(times) + inner + end.repeat(times);
    }

    private static void sixOfEachKind() {
        for (int n = 0; n <= 6; n++) {
            due(n + " of (", pays(within("(", "7", ")", n)), 7);
            due(n + " of [", holds(within("[", "1 = 1", "]", n)), 1);
            due(n + " of not", holds(within("not ", "1 = 1", "", n)), 1 - n % 2);
            due(n + " of ( in open", holds(within("(", "7", ")", n) + " = " + within("(", "7", ")", n)), 1);
        }
        for (int n = 7; n <= 9; n++) {
            tooDeep("pays", within("(", "7", ")", n), 6);
            tooDeep("open", within("[", "1 = 1", "]", n), 6);
            tooDeep("open", within("not ", "1 = 1", "", n), 24);
            tooDeep("open", "1 = " + within("(", "7", ")", n), 10);
        }
    }

    private static void sixOfIfInEachPart() {
        String inTruth = "7";
        String inThen = "7";
        String inElse = "7";
        for (int n = 0; n <= 6; n++) {
            due(n + " of if in its truth", pays(inTruth), 7);
            due(n + " of if behind then", pays(inThen), 7);
            due(n + " of if behind else", pays(inElse), 7);
            inTruth = "if " + inTruth + " = 7 then 7 else 8 end";
            inThen = "if 1 = 1 then " + inThen + " else 8 end";
            inElse = "if 1 = 2 then 8 else " + inElse + " end";
        }
        tooDeep("pays", inTruth, 6 * "if ".length());
        tooDeep("pays", inThen, 6 * "if 1 = 1 then ".length());
        tooDeep("pays", inElse, 6 * "if 1 = 2 then 8 else ".length());
    }

    private static void sixOfAllKinds() {
        String six = "not [ if [ not ( 1 ) = 1 ] then 1 else 2 end = 1 ]";
        due("not [ if [ not (", holds(six), 1);
        tooDeep("open", six.replace("( 1 )", "( (1) )"), 17);
        tooDeep("open", six.replace("( 1 )", "( if 1 = 1 then 1 else 1 end )"), 17);
        tooDeep("open", "not not not " + "[[[ [ 1 = 1 ]]]]", 16);
        tooDeep("open", "[[[ not not not not 1 = 1 ]]]", 16);
        tooDeep("pays", "((if not [ (1) = 1 ] and ((((1)))) = 1 then 1 else 1 end))", 28);
        due("six by parts", pays("((if not [ (1) = 2 ] and (((1))) = 1 then 1 else 2 end))"), 1);
    }

    private static void besideOneAnother() {
        String six = within("(", "1", ")", 6);
        due("six and six", pays(six + " + " + six + " * " + six), 2);
        due("six and six of not", holds("not not not not not not 1 = 1 and not not not not not not 1 = 1"), 1);
        due("six on either side", holds(six + " = " + six), 1);
        due("six in each part", pays("if " + within("(", "1", ")", 5) + " = 1 then " + within("(", "4", ")", 5) + " else "
            + within("(", "5", ")", 5) + " end + " + six), 5);
        tooDeep("pays", six + " + " + within("(", "1", ")", 7), 22);
        tooDeep("pays", "if 1 = 1 then 1 else " + six + " end", 26);
        // in a later law it begins anew
        due("in a later line", Check.of(LAND + "pays : " + six + ";open : " + six + " = 1;").pay(0), 1);
    }

    private static void notHoldsItsUnitAlone() {
        due("five in a not", holds("not " + within("(", "1", ")", 5) + " = 2"), 1);
        tooDeep("open", "not " + within("(", "1", ")", 6) + " = 2", 9);
        tooDeep("open", "not 2 = " + within("(", "1", ")", 6), 13);
        due("behind it six again", holds("not 1 = 2 and " + within("(", "1", ")", 6) + " = 1"), 1);
    }

    private static void payIsKept() {
        long[] told = {-999, -101, -100, -99, -98, -1, 0, 1, 98, 99, 100, 101, 999};
        for (long v : told) {
            long want = Math.max(-99, Math.min(99, v));
            due("pays " + v, pays(v < 0 ? "0 - " + -v : "" + v), want);
        }
        due("pays a million", pays("999 * 999 + 999 * 999"), 99);
        due("pays less a million", pays("0 - 999 * 999 - 999 * 999"), -99);
    }

    private static void toldPayIsNot() {
        due("without a law", Check.of(LAND).pay(0), 3);
        due("99", Check.of("land weather 0;place mine;road 0 0 gains 99;").pay(0), 99);
        due("-99", Check.of("land weather 0;place mine;road 0 0 loses 99;").pay(0), -99);
        // what is kept is the pay, not what the law says on the way to it
        due("told 99 + 99", Check.of("land weather 0;place mine;road 0 0 gains 99;pays : told + told - 100;").pay(0), 98);
    }

    private static void plusIsKept() {
        due("999,999", pays(NEARLY + " - 999 * 999 - 999 - 998"), 1);
        due("1,000,000 is taken", pays(NEARLY + " + 1 - " + NEARLY), 1);
        due("1,000,001 isn't", pays(NEARLY + " + 2 - " + NEARLY), 1);
        due("nor is more", pays(NEARLY + " + " + NEARLY + " - " + NEARLY), 1);
        due("-1,000,000 is taken", pays("0 - " + NEARLY + " + (0 - 1) + " + NEARLY), -1);
        due("-1,000,001 isn't", pays("0 - " + NEARLY + " + (0 - 2) + " + NEARLY), -1);
    }

    private static void minusIsKept() {
        due("-1,000,000 is taken", pays("0 - " + NEARLY + " - 1 + " + NEARLY), -1);
        due("-1,000,001 isn't", pays("0 - " + NEARLY + " - 2 + " + NEARLY), -1);
        due("1,000,000 is taken", pays(NEARLY + " - (0 - 1) - " + NEARLY), 1);
        due("1,000,001 isn't", pays(NEARLY + " - (0 - 2) - " + NEARLY), 1);
    }

    /** 1000 * 1000; 101 * 9901 is 1,000,001. */
    private static void timesIsKept() {
        String thousand = "(500 + 500)";
        String more = "(999 * 9 + 910)";
        due("1,000,000 is taken", pays(thousand + " * " + thousand + " - " + NEARLY), 1);
        due("1,000,001 isn't", pays("101 * " + more + " - " + NEARLY), 1);
        due("999,999", pays("(999 + 2) * 999 - " + NEARLY), 0);
        due("-1,000,000 is taken", pays("(0 - 500 - 500) * " + thousand + " + " + NEARLY), -1);
        due("-1,000,001 isn't", pays("(0 - 101) * " + more + " + " + NEARLY), -1);
        due("far beyond an int", pays(NEARLY + " * " + NEARLY + " - " + NEARLY), 1);
        due("far below an int", pays("(0 - " + NEARLY + ") * " + NEARLY + " + " + NEARLY), -1);
        due("two below 0", pays("(0 - " + NEARLY + ") * (0 - " + NEARLY + ") - " + NEARLY), 1);
        due("by 0", pays(NEARLY + " * 0 + 5"), 5);
    }

    private static void keptAtEachStep() {
        // from left to right: 1,000,000 kept, then less
        due("+ +, then -", pays(NEARLY + " + 999 + 999 - 999 - 999 - 999 * 999"), 1);
        due("* *, then -", pays("999 * 999 * 999 - 999 * 999 - 999 - 999"), 1);
        due("( ) first", pays("999 * (999 * 999 - 998 * 999 - 998) - 990"), 9);
    }

    private static void keptBothAtOnce() {
        // a million less less a million is kept, too
        due("a million - less a million", pays("(" + NEARLY + " + 1) - (0 - " + NEARLY + " - 1) - " + NEARLY), 1);
        due("less a million - a million", pays("(0 - " + NEARLY + " - 1) - (" + NEARLY + " + 1) + " + NEARLY), -1);
        due("in a truth, too", holds(NEARLY + " + 2 = " + NEARLY + " + 1"), 1);
    }

    private static void comparing() {
        for (int a = 4; a <= 6; a++) {
            due(a + " = 5", holds(a + " = 5"), a == 5 ? 1 : 0);
            due(a + " < 5", holds(a + " < 5"), a < 5 ? 1 : 0);
            due(a + " > 5", holds(a + " > 5"), a > 5 ? 1 : 0);
            due("0 - " + a + " < 0 - 5", holds("0 - " + a + " < 0 - 5"), a > 5 ? 1 : 0);
            due("0 - " + a + " > 0 - 5", holds("0 - " + a + " > 0 - 5"), a < 5 ? 1 : 0);
        }
        due("-1 < 0", holds("0 - 1 < 0"), 1);
        due("0 > -1", holds("0 > 0 - 1"), 1);
        due("sums on both sides", holds("1 + 2 * 3 = 10 - 3"), 1);
    }

    private static void truths() {
        String[] truth = {"1 = 2", "1 = 1"};
        for (int a = 0; a < 2; a++) {
            due("not " + a, holds("not " + truth[a]), 1 - a);
            for (int b = 0; b < 2; b++) {
                due(a + " and " + b, holds(truth[a] + " and " + truth[b]), a & b);
                due(a + " or " + b, holds(truth[a] + " or " + truth[b]), a | b);
                due("not " + a + " and " + b, holds("not " + truth[a] + " and " + truth[b]), 1 - a & b);
                due("not [" + a + " and " + b + "]", holds("not [" + truth[a] + " and " + truth[b] + "]"), 1 - (a & b));
                for (int c = 0; c < 2; c++) {
                    due(a + " or " + b + " and " + c, holds(truth[a] + " or " + truth[b] + " and " + truth[c]), a | b & c);
                    due(a + " and " + b + " or " + c, holds(truth[a] + " and " + truth[b] + " or " + truth[c]), a & b | c);
                    due("[" + a + " or " + b + "] and " + c,
                        holds("[" + truth[a] + " or " + truth[b] + "] and " + truth[c]), (a | b) & c);
                }
            }
        }
    }

    private static void choosing() {
        due("then", pays("if 1 = 1 then 5 else 6 end"), 5);
        due("else", pays("if 1 = 2 then 5 else 6 end"), 6);
        due("within a sum", pays("1 + if 1 = 2 then 5 else 6 end * 2 + 1"), 14);
        due("below 0", pays("if 1 = 2 then 5 else 0 - 6 end"), -6);
    }

    private static void eachName() {
        StringBuilder land = new StringBuilder("land weather 0;" + "place yours;".repeat(8));
        for (int r = 0; r < 16; r++) {
            land.append("road ").append(r / 2).append(' ').append(7 - r / 2).append(r % 2 == 0 ? " gains " : " loses ").append(r)
                .append(';');
        }
        String[] names = {"told", "from", "to", "road", "weather"};
        for (int k = 0; k < names.length; k++) {
            MeanRoads x = Check.of(land + "pays : " + names[k] + ";");
            for (int r = 0; r < 16; r++) {
                long[] want = {r % 2 == 0 ? r : -r, r / 2, 7 - r / 2, r, r % 10};
                x.weather(r % 10);
                due(names[k] + " of road " + r, x.pay(r), want[k]);
            }
        }
    }

    private static void openByWeather() {
        for (int w = 0; w <= 9; w++) {
            MeanRoads x = Check.of("land weather " + w + ";place mine;" + "road 0 0 gains 1;".repeat(16) + "open : road > weather;");
            for (int r = 0; r < 16; r++) {
                due("road(" + r + ", 2) by " + w, x.road(r, 2), r > w ? 1 : 0);
            }
            due("count(6) by " + w, x.count(6), 65535 & -1 << w + 1);
            due("place(0, 2) by " + w, x.place(0, 2), 15 - w);
            due("place(0, 3) by " + w, x.place(0, 3), w + 1);
        }
    }
}
