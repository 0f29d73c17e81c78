import java.util.ArrayList;
import java.util.Collections;
import java.util.List;
import java.util.Random;

/** Long runs of drawn calls, each answer held against the model's. */
public final class RandomRunsTest {
    private final Random random;
    private final Check check;
    private final MeanRoads x = new MeanRoads();
    private final Model m = new Model();
    private final StringBuilder story = new StringBuilder();

    private RandomRunsTest(long seed, Check check) {
        this.random = new Random(seed);
        this.check = check;
        story.append("seed ").append(seed);
    }

    public static void main(String[] args) {
        int runs = args.length > 0 ? Integer.parseInt(args[0]) : 150;
        long first = args.length > 1 ? Long.parseLong(args[1]) : 1;
        Check check = new Check();
        for (int i = 0; i < runs; i++) {
            new RandomRunsTest(first + i, check).run();
        }
        check.end();
    }

    private int n(int bound) {
        return random.nextInt(bound);
    }

    /** Mostly 0 to most, now and then just beside it, seldom anything. */
    private int near(int most) {
        int k = n(30);
        if (k == 0) {
            return -1;
        }
        if (k == 1) {
            return most + 1;
        }
        return k == 2 && n(4) == 0 ? random.nextInt() : n(most + 1);
    }

    private void due(String call, long got, long want) {
        check.due(story + ": " + call, got, want);
    }

    private void run() {
        int calls = 0;
        while (calls < 460) {
            if (calls == 0 || n(70) == 0) {
                calls += newLand();
            }
            call();
            calls++;
        }
    }

    private int newLand() {
        String text = randomLand();
        if (n(4) == 0) {
            text = spoilt(text);
        }
        if (text.length() > 900) {
            text = text.substring(0, 900);
        }
        int[] v = Check.ints(Check.bytes(text));
        int calls = 0;
        for (int i = 0; i < v.length; i += 5) {
            due("feed", x.feed(v[i], v[i + 1], v[i + 2], v[i + 3], v[i + 4]),
                m.feed(v[i], v[i + 1], v[i + 2], v[i + 3], v[i + 4]));
            calls++;
        }
        int size = n(40) == 0 ? near(900) : text.length();
        story.append(" land(").append(size).append(") <").append(text).append(">");
        due("land", x.land(size), m.land(size));
        due("fault(0)", x.fault(0), m.fault(0));
        due("fault(1)", x.fault(1), m.fault(1));
        return calls + 3;
    }

    // ---- texts

    private String randomLand() {
        StringBuilder b = new StringBuilder("land weather " + n(10) + ";");
        int places = n(6) == 0 ? 0 : n(3) == 0 ? 8 : 1 + n(8);
        for (int i = 0; i < places; i++) {
            b.append(n(6) == 0 ? "\n" : "").append("place ").append(n(2) == 0 ? "mine;" : "yours;");
        }
        int roads = places == 0 ? 0 : n(3) == 0 ? n(4) : n(17);
        int most = n(3) == 0 ? 3 : 100;
        for (int i = 0; i < roads; i++) {
            b.append("road ").append(n(places)).append(' ').append(n(places))
                .append(n(2) == 0 ? " gains " : " loses ").append(n(most)).append(';');
        }
        for (int i = n(3); i > 0; i--) {
            b.append("pays :").append(sum(n(5))).append(";");
        }
        for (int i = n(3); i > 0; i--) {
            b.append("open: ").append(truth(n(5))).append(" ;");
        }
        return b.toString();
    }

    private String sum(int depth) {
        StringBuilder b = new StringBuilder(term(depth));
        while (n(3) == 0) {
            b.append(n(2) == 0 ? " + " : " - ").append(term(depth));
        }
        return b.toString();
    }

    private String term(int depth) {
        StringBuilder b = new StringBuilder(atom(depth));
        while (n(4) == 0) {
            b.append("*").append(atom(depth));
        }
        return b.toString();
    }

    private String atom(int depth) {
        if (depth > 0 && n(3) == 0) {
            return n(2) == 0 ? "(" + sum(depth - 1) + ")"
                : " if " + truth(depth - 1) + " then " + sum(depth - 1) + " else " + sum(depth - 1) + " end ";
        }
        String[] names = {"told", "from", "to", "road", "weather", "told", "weather"};
        return n(4) == 0 ? " " + n(n(5) == 0 ? 1000 : 12) : " " + names[n(names.length)];
    }

    private String truth(int depth) {
        StringBuilder b = new StringBuilder(unit(depth));
        while (n(3) == 0) {
            b.append(n(2) == 0 ? " and " : " or ").append(unit(depth));
        }
        return b.toString();
    }

    private String unit(int depth) {
        if (depth > 0 && n(3) == 0) {
            return n(2) == 0 ? " not " + unit(depth - 1) : "[" + truth(depth - 1) + "]";
        }
        return sum(Math.max(0, depth - 1)) + " " + "=<>".charAt(n(3)) + sum(Math.max(0, depth - 1));
    }

    private String spoilt(String text) {
        String[] bits = {";", ":", "+", "-", "*", "(", ")", "[", "]", "=", "<", ">", " ", "\n", "1", "99", "100",
            "1000", "0007", "not ", "if ", "then ", "end", "place mine;", "road 0 0 gains 1;", "land ", "?", "A",
            "\u00e9", "\u0000", "\t", " weather ", "or ", "and ", "told", "[[[", "(((", "not not not "};
        StringBuilder b = new StringBuilder(text);
        for (int i = 1 + n(2); i > 0; i--) {
            int at = n(b.length() + 1);
            int k = n(4);
            if (k == 0) {
                b.delete(at, Math.min(b.length(), at + 1 + n(6)));
            } else if (k == 1) {
                b.setLength(at);
            } else {
                b.insert(at, bits[n(bits.length)]);
            }
        }
        return b.toString();
    }

    // ---- calls

    private void call() {
        int p = near(Math.min(8, m.places()) - 1);
        int r = near(Math.max(0, m.land.roads.size() - 1));
        int t = near(3);
        int k = n(46);
        int mark = story.length();
        switch (k) {
            case 0: fillTray(t); break;
            case 1: case 2: both("fault", n(4) - 1); break;
            case 3: case 4: placeAndRoad(p, r); break;
            case 5: case 6: case 7: deed("move", n(3) == 0 ? 16 : r, 0); break;
            case 8: deed("moves", 1 + near(98), 0); break;
            case 9: case 10: deed("plan", p, n(4) == 0 ? -1 : r); break;
            case 11: deed("plays", near(1), 0); break;
            case 12: case 13: deed("weather", near(9), 0); break;
            case 14: deed("undo", 1 + near(n(3)), 0); break;
            case 15: judge(t); break;
            case 16: deed("perform", t, 0); break;
            case 17: deed("journey", random.nextInt(), 1 + near(39)); break;
            case 18: case 19: case 20: ringCalls(p); break;
            case 21: case 22: case 23: case 24: case 25: gameCalls(p); break;
            case 26: case 27: case 28: case 29: goingCalls(); break;
            case 30: case 31: case 32: rowCalls(p); break;
            case 33: case 34: paidTray(t); break;
            case 35: case 36: chanceCalls(); break;
            case 37: case 38: deed("numbers", t, near(3) * 64 + (n(20) == 0 ? near(40) & 63 : n(9))); break;
            case 39: writeAll(t); break;
            case 40: deed("lists", t, 0); readTray(t); break;
            case 41: deed("image", near(1), 0); break;
            case 42: deed("restore", near(1), 0); break;
            default: counts(); break;
        }
        if (story.length() == mark && n(20) == 0) {
            counts();
        }
    }

    /** A call that may change something: it goes into the story. */
    private void deed(String name, int a, int b) {
        story.append(' ').append(name).append('(').append(a).append(',').append(b).append(')');
        switch (name) {
            case "move": due(name, x.move(a), m.move(a)); break;
            case "moves": due(name, x.moves(a), m.moves(a)); break;
            case "plan": due(name, x.plan(a, b), m.plan(a, b)); break;
            case "plays": due(name, x.plays(a), m.plays(a)); break;
            case "weather": due(name, x.weather(a), m.weather(a)); break;
            case "undo": due(name, x.undo(a), m.undo(a)); break;
            case "perform": due(name, x.perform(a), m.perform(a)); break;
            case "journey": due(name, x.journey(a, b), m.journey(a, b)); break;
            case "numbers": due(name, x.numbers(a, b >> 6, b & 63), m.numbers(a, b >> 6, b & 63)); break;
            case "lists": due(name, x.lists(a), m.lists(a)); break;
            case "image": due(name, x.image(a), m.image(a)); break;
            case "restore": due(name, x.restore(a), m.restore(a)); break;
            default: throw new IllegalStateException(name);
        }
        int what = n(10);
        due("count(" + what + ")", x.count(what), m.count(what));
        if (n(3) == 0) {
            due("purse(0)", x.purse(0), m.purse(0));
        }
    }

    private void both(String name, int a) {
        due("fault(" + a + ")", x.fault(a), m.fault(a));
    }

    private void counts() {
        for (int what = -1; what <= 10; what++) {
            due("count(" + what + ")", x.count(what), m.count(what));
        }
    }

    private void placeAndRoad(int p, int r) {
        for (int what = -1; what <= 4; what++) {
            due("place(" + p + "," + what + ")", x.place(p, what), m.place(p, what));
            due("road(" + r + "," + what + ")", x.road(r, what), m.road(r, what));
        }
        for (int q = -1; q <= 17; q++) {
            due("pay(" + q + ")", x.pay(q), m.pay(q));
        }
    }

    private void judge(int t) {
        for (int what = -1; what <= 4; what++) {
            due("judge(" + t + "," + what + ")", x.judge(t, what), m.judge(t, what));
        }
    }

    /** Some of these calls in a drawn order, so that none can rest on what another has reckoned. */
    private void some(Runnable... calls) {
        List<Runnable> drawn = new ArrayList<>(List.of(calls));
        Collections.shuffle(drawn, random);
        int many = n(3) == 0 ? drawn.size() : 1;
        for (int i = 0; i < many; i++) {
            drawn.get(i).run();
        }
    }

    private void ringCalls(int p) {
        int which = near(1);
        int what = near(1);
        some(() -> due("rings()", x.rings(), m.rings()),
            () -> due("reach(" + p + ")", x.reach(p), m.reach(p)),
            () -> due("onRing(" + which + ")", x.onRing(which), m.onRing(which)),
            () -> due("ring(" + p + "," + which + "," + what + ")", x.ring(p, which, what), m.ring(p, which, what)));
    }

    private void gameCalls(int p) {
        int what = near(1);
        int who = near(1);
        int sign = near(2);
        int b = near(99);
        int a = n(4) == 0 ? near(9999) : (int) Math.max(-9999, Math.min(9999,
            m.isPlace(p) ? m.worth(p, 0) * b / Math.max(1, m.worth(p, 1)) + n(3) - 1 : n(20)));
        some(() -> due("worth(" + p + "," + what + ")", x.worth(p, what), m.worth(p, what)),
            () -> due("wins(" + sign + ")", x.wins(sign), m.wins(sign)),
            () -> due("secures(" + who + "," + p + "," + what + ")", x.secures(who, p, what), m.secures(who, p, what)),
            () -> due("plans(" + who + "," + p + ")", x.plans(who, p), m.plans(who, p)),
            () -> due("atLeast(" + p + "," + a + "," + b + ")", x.atLeast(p, a, b), m.atLeast(p, a, b)),
            () -> due("best(" + p + ")", x.best(p), m.best(p)),
            () -> due("meet()", x.meet(), m.meet()),
            () -> due("energy(" + p + ")", x.energy(p), m.energy(p)));
    }

    private void goingCalls() {
        long[] drawn = {-1, 0, 1, n(20), n(1000), random.nextLong() >>> 14, 1_000_000_000_000_000L,
            1_000_000_000_000_001L, random.nextLong()};
        long far = drawn[n(drawn.length)];
        int what = near(1);
        int k = n(3) == 0 ? near(9999) : near(30);
        some(() -> due("at(" + far + ")", x.at(far), m.at(far)),
            () -> due("purse(" + far + ")", x.purse(far), m.purse(far)),
            () -> due("round(" + what + ")", x.round(what), m.round(what)),
            () -> due("paid(" + k + ")", x.paid(k), m.paid(k)));
    }

    private void rowCalls(int p) {
        int k = near(6);
        int paid = n(9) == 0 ? random.nextInt() : n(4) == 0 ? n(7) - 3 : m.someSum(random, k);
        some(() -> due("sums(" + k + ")", x.sums(k), m.sums(k)),
            () -> due("sumsAt(" + p + "," + k + ")", x.sumsAt(p, k), m.sumsAt(p, k)),
            () -> due("rows(" + k + "," + paid + ")", x.rows(k, paid), m.rows(k, paid)));
    }

    private void chanceCalls() {
        int k = near(5);
        int what = near(1);
        some(() -> due("chance(" + k + "," + what + ")", x.chance(k, what), m.chance(k, what)),
            () -> due("mean(" + k + "," + what + ")", x.mean(k, what), m.mean(k, what)));
    }

    // ---- trays

    private void write(int t, int i, long v) {
        story.append(" write(").append(t).append(',').append(i).append(',').append(v).append(')');
        due("write", x.write(t, i, v), m.write(t, i, v));
    }

    private void writeAll(int t) {
        for (int i = -1; i < 3; i++) {
            write(t, i, n(2) == 0 ? random.nextLong() : n(600) - 300);
        }
    }

    /** Deeds that can mostly be. */
    private void fillTray(int t) {
        int size = n(12);
        deed("numbers", t, 3 * 64 + size);
        for (int i = 0; i < size; i++) {
            int k = n(12);
            long v = k < 4 ? 30 : k < 6 ? n(17) : k < 7 ? 20 + n(10)
                : k < 11 ? 1000 + 1000L * n(m.places()) + (n(3) == 0 ? 999 : n(17)) : n(3) == 0 ? n(10000) : 30;
            write(t, i, v);
        }
        judge(t);
    }

    private void readTray(int t) {
        // what lies in a tray is seen by judging and by weathers alone
        judge(t);
        due("weathers(" + t + ")", x.weathers(t), m.weathers(t));
    }

    private void paidTray(int t) {
        int size = n(12) == 0 ? n(10) : 1 + n(2);
        deed("numbers", t, (1 + n(3)) * 64 + size);
        int w = n(10);
        for (int i = 0; i < size; i++) {
            int r = n(Math.max(1, m.land.roads.size()));
            long v = 1000L * r + 100 + (m.isRoad(r) && n(8) != 0 ? m.payAt(r, w) : n(220) - 110);
            write(t, i, v);
        }
        due("weathers(" + t + ")", x.weathers(t), m.weathers(t));
        due("ask(" + t + ")", x.ask(t), m.ask(t));
    }
}
