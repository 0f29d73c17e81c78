import java.util.function.Supplier;
import java.util.function.ToLongFunction;

/**
 * Of each call that can be refused the code, and that it changed nothing; which of several codes it is; that calls which
 * only ask change nothing, either.
 */
public final class RefusedTest {
    private static final Check CHECK = new Check();
    private static final long FAR = Check.FAR;
    private static final int LEAST = Integer.MIN_VALUE;
    private static final int GREATEST = Integer.MAX_VALUE;

    public static void main(String[] args) {
        witnessSees();
        land();
        placesAndRoads();
        moves();
        plans();
        undoing();
        trayDeeds();
        rings();
        game();
        going();
        rows();
        paid();
        chances();
        trays();
        images();
        newObject();
        fullObject();
        faults();
        codesOfSeveral();
        asking();
        CHECK.end();
    }

    private static void refused(String call, long code, ToLongFunction<MeanRoads> by) {
        refusedBy(Stands::busy, call, code, by);
    }

    private static void refusedBy(Supplier<MeanRoads> stand, String call, long code, ToLongFunction<MeanRoads> by) {
        CHECK.due(call, by.applyAsLong(stand.get()), code);
        CHECK.holds(call + " changed nothing", Witness.isUnchanged(stand, by::applyAsLong));
    }

    /** The same call by several numbers, each of which is refused. */
    private static void refusedBy(String call, long code, int[] values, ByNumber by) {
        for (int v : values) {
            refused(call + " by " + v, code, x -> by.answer(x, v));
        }
    }

    private interface ByNumber {
        long answer(MeanRoads x, int v);
    }

    private static int[] around(int low, int high) {
        return new int[] {low - 1, high + 1, LEAST, GREATEST};
    }

    /** The look would show each of these changes; else it would be no proof. */
    private static void witnessSees() {
        String as = Witness.of(Stands.busy());
        seen(as, "feed", x -> x.feed(1, 2, 3, 4, 5));
        seen(as, "land", x -> x.land(15));
        seen(as, "move", x -> x.move(3));
        seen(as, "moves", x -> x.moves(1));
        seen(as, "plan", x -> x.plan(0, -1));
        seen(as, "plan as it was", x -> x.plan(0, 2));
        seen(as, "plays", x -> x.plays(0));
        seen(as, "weather", x -> x.weather(2));
        seen(as, "undo", x -> x.undo(1));
        seen(as, "perform", x -> x.perform(0));
        seen(as, "journey", x -> x.journey(3, 9));
        seen(as, "numbers", x -> x.numbers(3, 0, 0));
        seen(as, "numbers of as many", x -> x.numbers(0, 0, 3));
        seen(as, "numbers of another sort", x -> x.numbers(1, 2, 0) + x.numbers(1, 1, 1));
        seen(as, "write", x -> x.write(2, 1, 3108));
        seen(as, "lists", x -> x.lists(0));
        seen(as, "image", x -> x.image(0));
        seen(as, "image", x -> x.image(1));
        seen(as, "restore", x -> x.restore(1));
        seen(Witness.of(new MeanRoads()), "image of a new one", x -> x.image(0), Stands::newOne);
    }

    private static void seen(String as, String call, ToLongFunction<MeanRoads> by) {
        seen(as, call, by, Stands::busy);
    }

    private static void seen(String as, String call, ToLongFunction<MeanRoads> by, Supplier<MeanRoads> stand) {
        MeanRoads x = stand.get();
        by.applyAsLong(x);
        CHECK.holds("that a look shows " + call, !Witness.of(x).equals(as));
    }

    private static void land() {
        refusedBy("land", -3, around(0, 40), MeanRoads::land);
    }

    private static void placesAndRoads() {
        refusedBy("place(p, 0)", -2, around(0, 2), (x, v) -> x.place(v, 0));
        refusedBy("place(0, what)", -2, around(0, 3), (x, v) -> x.place(0, v));
        refusedBy("road(r, 0)", -2, around(0, 4), (x, v) -> x.road(v, 0));
        refused("road(16, 0)", -2, x -> x.road(16, 0));
        refusedBy("road(0, what)", -2, around(0, 2), (x, v) -> x.road(0, v));
        refusedBy("pay(r)", FAR - 2, around(0, 4), MeanRoads::pay);
        refused("pay(16)", FAR - 2, x -> x.pay(16));
    }

    private static void moves() {
        refusedBy("move(r)", FAR - 11, around(0, 4), MeanRoads::move);
        refusedBy("move(r)", FAR - 11, new int[] {15, 16, 17}, MeanRoads::move);
        refused("move(0)", FAR - 12, x -> x.move(0));
        refused("move(4)", FAR - 12, x -> x.move(4));
        refusedBy(Stands::closed, "move(0), not open", FAR - 13, x -> x.move(0));
        refusedBy(Stands::closed, "move(1), not open, too", FAR - 12, x -> x.move(1));
        refusedBy("moves(n)", FAR - 3, around(1, 99), MeanRoads::moves);
        refusedBy("weather(n)", -11, around(0, 9), MeanRoads::weather);
        refusedBy("journey(1, times)", -3, around(1, 40), (x, v) -> x.journey(1, v));
    }

    private static void plans() {
        refusedBy("plan(p, -1)", -11, around(0, 2), (x, v) -> x.plan(v, -1));
        refusedBy("plan(p, 0)", -11, around(0, 2), (x, v) -> x.plan(v, 0));
        refusedBy("plan(0, r)", -11, new int[] {-2, 5, 15, 16, 17, 999, LEAST, GREATEST}, (x, v) -> x.plan(0, v));
        refusedBy("plan(0, r)", -12, new int[] {1, 3, 4}, (x, v) -> x.plan(0, v));
        refusedBy("plan(1, r)", -12, new int[] {0, 2, 4}, (x, v) -> x.plan(1, v));
        refusedBy("plays(who)", -2, around(0, 1), MeanRoads::plays);
        refusedBy(Stands::closed, "plan(0, 16) where one stays", -11, x -> x.plan(0, 16));
    }

    private static void undoing() {
        refusedBy("undo(n), five can be", -3, new int[] {-1, 0, 6, 10, 11, LEAST, GREATEST}, MeanRoads::undo);
    }

    private static void trayDeeds() {
        refusedBy("judge(tray, 0)", -2, around(0, 3), (x, v) -> x.judge(v, 0));
        refusedBy("judge(0, what)", -2, around(0, 3), (x, v) -> x.judge(0, v));
        refused("judge(3, 0)", -6, x -> x.judge(3, 0));
        refusedBy("perform(tray)", -2, around(0, 3), MeanRoads::perform);
        refused("perform(3)", -6, x -> x.perform(3));
    }

    private static void rings() {
        refusedBy("ring(p, 0, 0)", FAR - 2, around(0, 2), (x, v) -> x.ring(v, 0, 0));
        refusedBy("ring(0, which, 0)", FAR - 2, around(0, 1), (x, v) -> x.ring(0, v, 0));
        refusedBy("ring(0, 0, what)", FAR - 2, around(0, 1), (x, v) -> x.ring(0, 0, v));
        refusedBy("reach(p)", -2, around(0, 2), MeanRoads::reach);
        refusedBy("onRing(which)", -2, around(0, 1), MeanRoads::onRing);
    }

    private static void game() {
        refusedBy("worth(p, 0)", FAR - 2, around(0, 2), (x, v) -> x.worth(v, 0));
        refusedBy("worth(0, what)", FAR - 2, around(0, 1), (x, v) -> x.worth(0, v));
        refusedBy("wins(sign)", -2, around(0, 2), MeanRoads::wins);
        refusedBy("atLeast(p, 0, 1)", -2, around(0, 2), (x, v) -> x.atLeast(v, 0, 1));
        refusedBy("atLeast(0, a, 1)", -3, around(-9999, 9999), (x, v) -> x.atLeast(0, v, 1));
        refusedBy("atLeast(0, 0, b)", -3, around(1, 99), (x, v) -> x.atLeast(0, 0, v));
        refusedBy("best(p)", -2, around(0, 2), MeanRoads::best);
        refusedBy("secures(who, 0, 0)", FAR - 2, around(0, 1), (x, v) -> x.secures(v, 0, 0));
        refusedBy("secures(0, p, 0)", FAR - 2, around(0, 2), (x, v) -> x.secures(0, v, 0));
        refusedBy("secures(0, 0, what)", FAR - 2, around(0, 1), (x, v) -> x.secures(0, 0, v));
        refusedBy("plans(who, 0)", -2, around(0, 1), (x, v) -> x.plans(v, 0));
        refusedBy("plans(0, p)", -2, around(0, 2), (x, v) -> x.plans(0, v));
        refusedBy("energy(p)", -2, around(0, 2), MeanRoads::energy);
    }

    private static void going() {
        long[] far = {-1, 1_000_000_000_000_001L, Long.MIN_VALUE, Long.MAX_VALUE};
        for (long n : far) {
            refused("at(" + n + ")", -3, x -> x.at(n));
            refused("purse(" + n + ")", FAR - 3, x -> x.purse(n));
        }
        refusedBy("round(what)", -2, around(0, 1), MeanRoads::round);
        refusedBy("paid(n)", FAR - 3, around(0, 9999), MeanRoads::paid);
    }

    private static void rows() {
        refusedBy("rows(n, 0)", -3, around(0, 6), (x, v) -> x.rows(v, 0));
        refusedBy("sums(n)", -3, around(0, 6), MeanRoads::sums);
        refusedBy("sumsAt(p, 0)", -2, around(0, 2), (x, v) -> x.sumsAt(v, 0));
        refusedBy("sumsAt(0, n)", -3, around(0, 6), (x, v) -> x.sumsAt(0, v));
    }

    private static void paid() {
        refusedBy("weathers(tray)", -2, around(0, 3), MeanRoads::weathers);
        refusedBy("ask(tray)", -2, around(0, 3), MeanRoads::ask);
        refused("weathers(3)", -6, x -> x.weathers(3));
        refused("ask(3)", -6, x -> x.ask(3));
        refused("weathers(1), no numbers", -4, x -> x.weathers(1));
        refused("ask(1), no numbers", -4, x -> x.ask(1));
        Supplier<MeanRoads> wrong = () -> {
            MeanRoads x = Stands.busy();
            x.write(2, 1, 200);
            return x;
        };
        refusedBy(wrong, "weathers(2), 200", -3, x -> x.weathers(2));
        refusedBy(wrong, "ask(2), 200", -3, x -> x.ask(2));
        Supplier<MeanRoads> nine = () -> {
            MeanRoads x = Stands.busy();
            x.numbers(2, 3, 9);
            return x;
        };
        refusedBy(nine, "weathers(2), nine", -4, x -> x.weathers(2));
        refusedBy(nine, "ask(2), nine", -4, x -> x.ask(2));
    }

    private static void chances() {
        refusedBy("chance(0, what)", -2, around(0, 1), (x, v) -> x.chance(0, v));
        refusedBy("chance(n, 0)", -3, around(0, 5), (x, v) -> x.chance(v, 0));
        refusedBy("mean(0, what)", FAR - 2, around(0, 1), (x, v) -> x.mean(0, v));
        refusedBy("mean(n, 0)", FAR - 3, around(0, 5), (x, v) -> x.mean(v, 0));
    }

    private static void trays() {
        refusedBy("numbers(tray, 0, 1)", -2, around(0, 3), (x, v) -> x.numbers(v, 0, 1));
        refusedBy("numbers(0, sort, 1)", -2, around(0, 3), (x, v) -> x.numbers(0, v, 1));
        refusedBy("numbers(0, 3, n)", -3, around(0, 40), (x, v) -> x.numbers(0, 3, v));
        refusedBy("numbers(3, 3, n), missing", -3, around(0, 40), (x, v) -> x.numbers(3, 3, v));
        refusedBy("write(tray, 0, 1)", -2, around(0, 3), (x, v) -> x.write(v, 0, 1));
        refused("write(3, 0, 1)", -6, x -> x.write(3, 0, 1));
        refusedBy("write(0, i, 1)", -7, around(0, 2), (x, v) -> x.write(0, v, 1));
        refused("write(1, 0, 1), no numbers", -7, x -> x.write(1, 0, 1));
        refusedBy("lists(tray)", -2, around(0, 3), MeanRoads::lists);
        refused("lists(3)", -6, x -> x.lists(3));
    }

    private static void images() {
        refusedBy("image(i)", -2, around(0, 1), MeanRoads::image);
        refusedBy("restore(i)", -2, around(0, 1), MeanRoads::restore);
        Supplier<MeanRoads> one = () -> {
            MeanRoads x = Stands.closed();
            x.image(1);
            return x;
        };
        refusedBy(one, "restore(0), none was made", -5, x -> x.restore(0));
    }

    private static void newObject() {
        Supplier<MeanRoads> stand = Stands::newOne;
        refusedBy(stand, "land(1)", -3, x -> x.land(1));
        refusedBy(stand, "place(1, 0)", -2, x -> x.place(1, 0));
        refusedBy(stand, "road(0, 0)", -2, x -> x.road(0, 0));
        refusedBy(stand, "pay(0)", FAR - 2, x -> x.pay(0));
        refusedBy(stand, "move(0)", FAR - 11, x -> x.move(0));
        refusedBy(stand, "plan(0, 0)", -11, x -> x.plan(0, 0));
        refusedBy(stand, "plan(0, 16)", -11, x -> x.plan(0, 16));
        refusedBy(stand, "undo(1)", -3, x -> x.undo(1));
        refusedBy(stand, "undo(0)", -3, x -> x.undo(0));
        for (int t = 0; t < 4; t++) {
            int tray = t;
            refusedBy(stand, "judge(" + t + ", 0)", -6, x -> x.judge(tray, 0));
            refusedBy(stand, "perform(" + t + ")", -6, x -> x.perform(tray));
            refusedBy(stand, "weathers(" + t + ")", -6, x -> x.weathers(tray));
            refusedBy(stand, "ask(" + t + ")", -6, x -> x.ask(tray));
            refusedBy(stand, "write(" + t + ", 0, 0)", -6, x -> x.write(tray, 0, 0));
            refusedBy(stand, "lists(" + t + ")", -6, x -> x.lists(tray));
        }
        refusedBy(stand, "restore(0)", -5, x -> x.restore(0));
        refusedBy(stand, "restore(1)", -5, x -> x.restore(1));
    }

    private static void fullObject() {
        Supplier<MeanRoads> stand = Stands::full;
        refusedBy(stand, "feed", -5, x -> x.feed(0x6c616e64, 2, 3, 4, 5));
        refusedBy(stand, "land(901)", -3, x -> x.land(901));
        refusedBy(stand, "undo(11)", -3, x -> x.undo(11));
        refusedBy(stand, "write(3, 40, 1)", -7, x -> x.write(3, 40, 1));
        refusedBy(stand, "numbers(3, 2, 41)", -3, x -> x.numbers(3, 2, 41));
        refusedBy(stand, "weathers(3), forty", -4, x -> x.weathers(3));
    }

    /** With a fault all stays but for the tape and the fault. */
    private static void faults() {
        String as = Witness.withoutText(emptied(Stands.busy()));
        String[] texts = {"land weather 7;place mine;!", "land weather 7;place mine;place", "land weather 7;road 0 0 gains 1;",
            "land weather 7;" + "place yours;".repeat(9), "land weather 7;pays : 3;open : ((((((("};
        int[] kinds = {1, 2, 3, 4, 4};
        for (int i = 0; i < texts.length; i++) {
            MeanRoads x = emptied(Stands.busy());
            CHECK.due("land of " + texts[i], Check.tell(x, texts[i]), -30 - kinds[i]);
            CHECK.due("the tape is empty", x.count(8), 0);
            CHECK.due("fault(0)", x.fault(0), kinds[i]);
            CHECK.holds("all stays with fault " + kinds[i], Witness.withoutText(x).equals(as));
        }
    }

    private static MeanRoads emptied(MeanRoads x) {
        x.land(0);
        return x;
    }

    /** Of several codes that which the call tells first, all of them ahead of NONE. */
    private static void codesOfSeveral() {
        refused("judge: the tray and what", -2, x -> x.judge(4, 4));
        refused("judge: what and a missing tray", -2, x -> x.judge(3, 4));
        refused("atLeast: the place, a and b", -2, x -> x.atLeast(3, 10000, 0));
        refused("sumsAt: the place and n", -2, x -> x.sumsAt(3, 7));
        refused("chance: what and n", -2, x -> x.chance(6, 2));
        refused("mean: what and n", FAR - 2, x -> x.mean(6, 2));
        refused("numbers: the tray and n", -2, x -> x.numbers(4, 0, 41));
        refused("numbers: the sort and n", -2, x -> x.numbers(0, 4, 41));
        refused("write: a missing tray and i", -6, x -> x.write(3, 40, 1));
        refused("write: no such tray and i", -2, x -> x.write(4, 40, 1));
        refused("plan: the place, and where it begins", -11, x -> x.plan(3, 1));
        Supplier<MeanRoads> nineWrong = () -> {
            MeanRoads x = Stands.busy();
            Check.fill(x, 2, 0, 0, 0, 0, 0, 0, 0, 0, 0);
            return x;
        };
        refusedBy(nineWrong, "weathers: too many, and none can be", -4, x -> x.weathers(2));
        refusedBy(nineWrong, "ask: too many, and none can be", -4, x -> x.ask(2));
        Supplier<MeanRoads> noneThenWrong = () -> {
            MeanRoads x = Stands.busy();
            Check.fill(x, 2, 199, 1, 5100);
            return x;
        };
        refusedBy(noneThenWrong, "weathers: no weather, and then no road", -3, x -> x.weathers(2));
        refusedBy(noneThenWrong, "ask: no weather, and then no road", -3, x -> x.ask(2));
        Supplier<MeanRoads> noRoads = () -> {
            MeanRoads x = new MeanRoads();
            Check.fill(x, 2, 100);
            return x;
        };
        refusedBy(noRoads, "ask: no roads, and a number that can't be", -3, x -> x.ask(2));
        refusedBy(Stands::full, "land: n is looked at ahead of the text", -3, x -> x.land(-1));
    }

    private static void asked(String call, ToLongFunction<MeanRoads> by) {
        CHECK.holds(call + " changes nothing", Witness.isUnchanged(Stands::busy, by::applyAsLong));
        CHECK.holds(call + " changes nothing, full", Witness.isUnchanged(Stands::full, by::applyAsLong));
    }

    private static void asking() {
        asked("fault", x -> x.fault(0) + x.fault(1) + x.fault(2) + x.fault(-1));
        asked("place", x -> x.place(0, 0) + x.place(1, 1) + x.place(2, 2) + x.place(0, 3));
        asked("road", x -> x.road(0, 0) + x.road(1, 1) + x.road(2, 2));
        asked("pay", x -> x.pay(4));
        asked("judge", x -> x.judge(0, 0) + x.judge(0, 1) + x.judge(0, 2) + x.judge(0, 3) + x.judge(1, 0));
        asked("rings", MeanRoads::rings);
        asked("ring", x -> x.ring(0, 0, 0) + x.ring(1, 1, 1));
        asked("reach", x -> x.reach(0) + x.reach(2));
        asked("onRing", x -> x.onRing(0) + x.onRing(1));
        asked("worth", x -> x.worth(0, 0) + x.worth(2, 1));
        asked("wins", x -> x.wins(0) + x.wins(1) + x.wins(2));
        asked("atLeast", x -> x.atLeast(0, 0, 1) + x.atLeast(1, 9999, 99));
        asked("best", x -> x.best(0) + x.best(1));
        asked("secures", x -> x.secures(0, 0, 0) + x.secures(1, 2, 1));
        asked("meet", MeanRoads::meet);
        asked("plans", x -> x.plans(0, 0) + x.plans(1, 2));
        asked("energy", x -> x.energy(0) + x.energy(2));
        asked("at", x -> x.at(0) + x.at(1_000_000_000_000_000L));
        asked("purse", x -> x.purse(0) + x.purse(1_000_000_000_000_000L));
        asked("round", x -> x.round(0) + x.round(1));
        asked("paid", x -> x.paid(0) + x.paid(9999));
        asked("rows", x -> x.rows(0, 0) + x.rows(6, 3));
        asked("sums", x -> x.sums(0) + x.sums(6));
        asked("sumsAt", x -> x.sumsAt(0, 0) + x.sumsAt(2, 6));
        asked("weathers", x -> x.weathers(2));
        asked("ask", x -> x.ask(2));
        asked("chance", x -> x.chance(0, 0) + x.chance(5, 1));
        asked("mean", x -> x.mean(0, 0) + x.mean(5, 1));
        asked("count", x -> x.count(0) + x.count(9) + x.count(10) + x.count(-1));
    }
}
