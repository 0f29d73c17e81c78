import java.math.BigInteger;
import java.util.ArrayList;
import java.util.Arrays;
import java.util.HashMap;
import java.util.List;
import java.util.Map;
import java.util.TreeMap;
import java.util.TreeSet;

/**
 * The document once more, by other means than the class: slow, with the whole Java library, by trying
 * every pair of plans, by doubling, by maps. RandomRunsTest holds the class against it.
 */
final class Model {
    static final long FAR = -9_000_000_000_000_000_000L;

    // ---- the text

    static final class Fault extends RuntimeException {
        final int kind;
        final int place;

        Fault(int kind, int place) {
            this.kind = kind;
            this.place = place;
        }
    }

    record Token(String text, int place) {
        boolean isBad() {
            return text == null;
        }

        boolean isNumber() {
            return text != null && text.matches("[0-9]+");
        }
    }

    interface Expr {
        long tell(long told, long from, long to, long road, long weather);
    }

    static final class Parsed {
        int weather;
        int lines;
        List<Boolean> mine = new ArrayList<>();
        List<int[]> roads = new ArrayList<>();
        Expr pays;
        Expr open;
    }

    static List<Token> tokens(byte[] text) {
        List<Token> all = new ArrayList<>();
        String s = new String(text, java.nio.charset.StandardCharsets.ISO_8859_1);
        java.util.regex.Pattern p = java.util.regex.Pattern.compile("[\\n ]+|[a-z]+|[0-9]+|[;:+\\-*()\\[\\]=<>]");
        java.util.regex.Matcher m = p.matcher(s);
        int at = 0;
        while (at < s.length()) {
            if (!m.find(at) || m.start() != at) {
                all.add(new Token(null, at));
                return all;
            }
            String t = m.group();
            if (t.matches("[0-9]{4,}")) {
                all.add(new Token(null, at));
                return all;
            }
            if (!t.isBlank()) {
                all.add(new Token(t, at));
            }
            at = m.end();
        }
        all.add(new Token("", s.length()));
        return all;
    }

    static final class Parser {
        final List<Token> tokens;
        int next = 0;
        int within = 0;

        Parser(List<Token> tokens) {
            this.tokens = tokens;
        }

        Token peek() {
            return tokens.get(next);
        }

        Fault fault(int kind) {
            return new Fault(peek().isBad() ? 1 : kind, peek().place());
        }

        boolean sees(String... words) {
            return !peek().isBad() && Arrays.asList(words).contains(peek().text());
        }

        String need(String... words) {
            if (!sees(words)) {
                throw fault(2);
            }
            return tokens.get(next++).text();
        }

        int needNumber(int most) {
            if (!peek().isNumber()) {
                throw fault(2);
            }
            int v = Integer.parseInt(peek().text());
            if (v > most) {
                throw fault(3);
            }
            next++;
            return v;
        }

        void enter() {
            if (within == 6) {
                throw fault(4);
            }
            within++;
            next++;
        }

        Parsed land() {
            Parsed p = new Parsed();
            need("land");
            need("weather");
            p.weather = needNumber(9);
            need(";");
            p.lines = 1;
            while (!sees("")) {
                line(p);
                need(";");
                p.lines++;
            }
            return p;
        }

        void line(Parsed p) {
            if (sees("place")) {
                if (p.mine.size() == 8) {
                    throw fault(4);
                }
                next++;
                p.mine.add(need("mine", "yours").equals("mine"));
            } else if (sees("road")) {
                if (p.roads.size() == 16) {
                    throw fault(4);
                }
                next++;
                int from = needNumber(p.mine.size() - 1);
                int to = needNumber(p.mine.size() - 1);
                int sign = need("gains", "loses").equals("gains") ? 1 : -1;
                p.roads.add(new int[] {from, to, sign * needNumber(99)});
            } else if (sees("pays")) {
                next++;
                need(":");
                p.pays = sum();
            } else {
                need("open");
                need(":");
                p.open = truth();
            }
        }

        static long keep(long v) {
            return v > 1_000_000 ? 1_000_000 : v < -1_000_000 ? -1_000_000 : v;
        }

        Expr sum() {
            Expr left = term();
            while (sees("+", "-")) {
                boolean plus = need("+", "-").equals("+");
                Expr a = left;
                Expr b = term();
                left = (t, f, o, r, w) -> {
                    long x = a.tell(t, f, o, r, w);
                    long y = b.tell(t, f, o, r, w);
                    return keep(plus ? x + y : x - y);
                };
            }
            return left;
        }

        Expr term() {
            Expr left = atom();
            while (sees("*")) {
                next++;
                Expr a = left;
                Expr b = atom();
                left = (t, f, o, r, w) -> keep(a.tell(t, f, o, r, w) * b.tell(t, f, o, r, w));
            }
            return left;
        }

        Expr atom() {
            if (peek().isNumber()) {
                long v = Long.parseLong(tokens.get(next++).text());
                return (t, f, o, r, w) -> v;
            }
            switch (peek().isBad() ? "" : peek().text()) {
                case "(": {
                    enter();
                    Expr in = sum();
                    need(")");
                    within--;
                    return in;
                }
                case "if": {
                    enter();
                    Expr c = truth();
                    need("then");
                    Expr a = sum();
                    need("else");
                    Expr b = sum();
                    need("end");
                    within--;
                    return (t, f, o, r, w) -> c.tell(t, f, o, r, w) != 0 ? a.tell(t, f, o, r, w) : b.tell(t, f, o, r, w);
                }
                case "told":
                    next++;
                    return (t, f, o, r, w) -> t;
                case "from":
                    next++;
                    return (t, f, o, r, w) -> f;
                case "to":
                    next++;
                    return (t, f, o, r, w) -> o;
                case "road":
                    next++;
                    return (t, f, o, r, w) -> r;
                case "weather":
                    next++;
                    return (t, f, o, r, w) -> w;
                default:
                    throw fault(2);
            }
        }

        Expr truth() {
            Expr left = both();
            while (sees("or")) {
                next++;
                Expr a = left;
                Expr b = both();
                left = (t, f, o, r, w) -> a.tell(t, f, o, r, w) != 0 || b.tell(t, f, o, r, w) != 0 ? 1 : 0;
            }
            return left;
        }

        Expr both() {
            Expr left = unit();
            while (sees("and")) {
                next++;
                Expr a = left;
                Expr b = unit();
                left = (t, f, o, r, w) -> a.tell(t, f, o, r, w) != 0 && b.tell(t, f, o, r, w) != 0 ? 1 : 0;
            }
            return left;
        }

        Expr unit() {
            if (sees("not")) {
                enter();
                Expr in = unit();
                within--;
                return (t, f, o, r, w) -> in.tell(t, f, o, r, w) != 0 ? 0 : 1;
            }
            if (sees("[")) {
                enter();
                Expr in = truth();
                need("]");
                within--;
                return in;
            }
            Expr a = sum();
            String how = need("=", "<", ">");
            Expr b = sum();
            return (t, f, o, r, w) -> {
                int c = Long.compare(a.tell(t, f, o, r, w), b.tell(t, f, o, r, w));
                return (how.equals("=") ? c == 0 : how.equals("<") ? c < 0 : c > 0) ? 1 : 0;
            };
        }
    }

    // ---- fractions

    record Frac(BigInteger above, BigInteger below) implements Comparable<Frac> {
        static Frac of(long a, long b) {
            BigInteger x = BigInteger.valueOf(a);
            BigInteger y = BigInteger.valueOf(b);
            BigInteger g = x.gcd(y);
            return new Frac(x.divide(g), y.divide(g));
        }

        @Override
        public int compareTo(Frac o) {
            return above.multiply(o.below).compareTo(o.above.multiply(below));
        }

        long part(int what) {
            return (what == 0 ? above : below).longValueExact();
        }
    }

    // ---- the state

    static final class State implements Cloneable {
        int token = 0;
        long purse = 0;
        int moves = 0;
        int weather = 0;
        int[] plan = {-1, -1, -1, -1, -1, -1, -1, -1};

        State dup() {
            State s = new State();
            s.token = token;
            s.purse = purse;
            s.moves = moves;
            s.weather = weather;
            s.plan = plan.clone();
            return s;
        }
    }

    Parsed land = new Parsed();
    State s = new State();
    List<State> past = new ArrayList<>();
    Parsed[] imageLand = new Parsed[2];
    State[] imageState = new State[2];
    int[] traySort = {-1, -1, -1, -1};
    long[][] tray = new long[4][];
    byte[] tape = new byte[0];
    int faultKind = 0;
    int faultPlace = -1;

    Model() {
        land.mine.add(true);
    }

    int places() {
        return land.mine.size();
    }

    boolean isPlace(int p) {
        return p >= 0 && p < places();
    }

    boolean isRoad(int r) {
        return r >= 0 && r < land.roads.size();
    }

    int payAt(int r, int w) {
        if (r == 16) {
            return 0;
        }
        int[] x = land.roads.get(r);
        long v = land.pays == null ? x[2] : land.pays.tell(x[2], x[0], x[1], r, w);
        return (int) Math.max(-99, Math.min(99, v));
    }

    boolean opens(int r, int w) {
        int[] x = land.roads.get(r);
        return land.open == null || land.open.tell(x[2], x[0], x[1], r, w) != 0;
    }

    List<Integer> openFrom(int p, int w) {
        List<Integer> l = new ArrayList<>();
        for (int r = 0; r < land.roads.size(); r++) {
            if (land.roads.get(r)[0] == p && opens(r, w)) {
                l.add(r);
            }
        }
        return l;
    }

    List<Integer> ways(int p, int w) {
        List<Integer> l = openFrom(p, w);
        if (l.isEmpty()) {
            l.add(16);
        }
        return l;
    }

    int to(int p, int way) {
        return way == 16 ? p : land.roads.get(way)[1];
    }

    int byPlan(State t, int p) {
        List<Integer> l = ways(p, t.weather);
        return l.contains(t.plan[p]) ? t.plan[p] : l.get(0);
    }

    // ---- the calls

    int feed(int a, int b, int c, int d, int e) {
        if (tape.length + 20 > 900) {
            return -5;
        }
        java.nio.ByteBuffer n = java.nio.ByteBuffer.allocate(tape.length + 20);
        n.put(tape).putInt(a).putInt(b).putInt(c).putInt(d).putInt(e);
        tape = n.array();
        return tape.length;
    }

    int land(int n) {
        if (n < 0 || n > tape.length) {
            return -3;
        }
        byte[] text = Arrays.copyOf(tape, n);
        tape = new byte[0];
        faultKind = 0;
        faultPlace = -1;
        try {
            Parsed p = new Parser(tokens(text)).land();
            if (p.mine.isEmpty()) {
                p.mine.add(true);
            }
            land = p;
            s = new State();
            s.weather = p.weather;
            past.clear();
            return p.lines;
        } catch (Fault f) {
            faultKind = f.kind;
            faultPlace = f.place;
            return -30 - f.kind;
        }
    }

    int fault(int what) {
        return what == 0 ? faultKind : what == 1 ? faultPlace : -1;
    }

    int place(int p, int what) {
        if (!isPlace(p) || what < 0 || what > 3) {
            return -2;
        }
        int[] all = {land.mine.get(p) ? 1 : 0, s.plan[p], openFrom(p, s.weather).size(), byPlan(s, p)};
        return all[what];
    }

    int road(int r, int what) {
        if (!isRoad(r) || what < 0 || what > 2) {
            return -2;
        }
        return what == 2 ? opens(r, s.weather) ? 1 : 0 : land.roads.get(r)[what];
    }

    long pay(int r) {
        return isRoad(r) ? payAt(r, s.weather) : FAR - 2;
    }

    void keep(State t) {
        past.add(t);
        if (past.size() > 10) {
            past.remove(0);
        }
    }

    void go(State t, int way) {
        t.purse += payAt(way, t.weather);
        t.token = to(t.token, way);
        t.moves++;
    }

    int deed(State t, long v) {
        if (v >= 0 && v <= 16) {
            int r = (int) v;
            if (r == 16 ? !openFrom(t.token, t.weather).isEmpty() : !isRoad(r)) {
                return 1;
            }
            if (r != 16 && land.roads.get(r)[0] != t.token) {
                return 2;
            }
            if (r != 16 && !opens(r, t.weather)) {
                return 3;
            }
            go(t, r);
            return 0;
        }
        if (v >= 20 && v <= 29) {
            t.weather = (int) v - 20;
            return 0;
        }
        if (v == 30) {
            go(t, byPlan(t, t.token));
            return 0;
        }
        if (v >= 1000 && v <= 8999) {
            int p = (int) (v / 1000) - 1;
            int r = (int) (v % 1000);
            return setPlan(t, p, r == 999 ? -1 : r);
        }
        return 1;
    }

    int setPlan(State t, int p, int r) {
        if (!isPlace(p) || r != -1 && !isRoad(r)) {
            return 1;
        }
        if (r != -1 && land.roads.get(r)[0] != p) {
            return 2;
        }
        t.plan[p] = r;
        return 0;
    }

    long move(int r) {
        State old = s.dup();
        int why = r >= 0 && r <= 16 ? deed(s, r) : 1;
        if (why != 0) {
            return FAR - 10 - why;
        }
        keep(old);
        return s.purse - old.purse;
    }

    long moves(int n) {
        if (n < 1 || n > 99) {
            return FAR - 3;
        }
        State old = s.dup();
        for (int i = 0; i < n; i++) {
            deed(s, 30);
        }
        keep(old);
        return s.purse - old.purse;
    }

    int plan(int p, int r) {
        State old = s.dup();
        int why = setPlan(s, p, r);
        if (why != 0) {
            return -10 - why;
        }
        keep(old);
        return old.plan[p];
    }

    int plays(int who) {
        if (who != 0 && who != 1) {
            return -2;
        }
        keep(s.dup());
        int n = 0;
        int[] b = bestPlan(who);
        for (int p = 0; p < places(); p++) {
            if (land.mine.get(p) == (who == 1)) {
                int r = b[p] == 16 ? -1 : b[p];
                if (r != s.plan[p]) {
                    n++;
                }
                s.plan[p] = r;
            }
        }
        return n;
    }

    int weather(int n) {
        if (n < 0 || n > 9) {
            return -11;
        }
        keep(s.dup());
        int w = s.weather;
        s.weather = n;
        return w;
    }

    int undo(int n) {
        if (n < 1 || n > 10 || n > past.size()) {
            return -3;
        }
        for (int i = 0; i < n; i++) {
            s = past.remove(past.size() - 1);
        }
        return past.size();
    }

    int judge(int t, int what) {
        if (t < 0 || t > 3 || what < 0 || what > 3) {
            return -2;
        }
        if (tray[t] == null) {
            return -6;
        }
        State x = s.dup();
        int why = 0;
        int at = -1;
        for (int i = 0; i < tray[t].length && why == 0; i++) {
            why = deed(x, tray[t][i]);
            at = why == 0 ? -1 : i;
        }
        int[] all = {at, why, x.token, (int) (x.purse + 1_000_000)};
        return all[what];
    }

    int perform(int t) {
        if (t < 0 || t > 3) {
            return -2;
        }
        if (tray[t] == null) {
            return -6;
        }
        State old = s.dup();
        int n = 0;
        while (n < tray[t].length && deed(s, tray[t][n]) == 0) {
            n++;
        }
        if (n > 0) {
            keep(old);
        }
        return n;
    }

    private int x;

    private int draw() {
        x = (int) (1103515245L * x + 12345L);
        return x >>> 16;
    }

    int journey(int seed, int times) {
        if (times < 1 || times > 40) {
            return -3;
        }
        x = seed;
        State old = s.dup();
        int n = 0;
        for (int i = 0; i < times; i++) {
            long v;
            switch (draw() % 6) {
                case 0: case 1: case 2: v = draw() % 17; break;
                case 3: case 4: v = 30; break;
                default: v = 20 + draw() % 10;
            }
            if (deed(s, v) == 0) {
                n++;
            }
        }
        if (n > 0) {
            keep(old);
        }
        return n;
    }

    // ---- rings: over vertices with how many roads there are

    int rings() {
        int n = 0;
        for (int p = 0; p < places(); p++) {
            n += ringsFrom(p, p, new ArrayList<>(List.of(p)));
        }
        return n;
    }

    private int ringsFrom(int root, int here, List<Integer> seen) {
        int n = 0;
        for (int q = root; q < places(); q++) {
            int many = 0;
            for (int way : ways(here, s.weather)) {
                if (to(here, way) == q) {
                    many++;
                }
            }
            if (many > 0 && q == root) {
                n += many;
            } else if (many > 0 && !seen.contains(q)) {
                seen.add(q);
                n += many * ringsFrom(root, q, seen);
                seen.remove(seen.size() - 1);
            }
        }
        return n;
    }

    /** All ways of choosing one way at each place where the filter leaves more than one. */
    List<int[]> choices(List<List<Integer>> perPlace) {
        List<int[]> all = new ArrayList<>();
        all.add(new int[places()]);
        for (int p = 0; p < places(); p++) {
            List<int[]> more = new ArrayList<>();
            for (int[] c : all) {
                for (int way : perPlace.get(p)) {
                    int[] d = c.clone();
                    d[p] = way;
                    more.add(d);
                }
            }
            all = more;
        }
        return all;
    }

    /** Options of one player; the other's places have -1 alone. */
    List<List<Integer>> options(int who) {
        List<List<Integer>> l = new ArrayList<>();
        for (int p = 0; p < places(); p++) {
            l.add(land.mine.get(p) == (who == 1) ? ways(p, s.weather) : List.of(-1));
        }
        return l;
    }

    private int[] joined(int[] mine, int[] yours) {
        int[] c = new int[places()];
        for (int p = 0; p < places(); p++) {
            c[p] = land.mine.get(p) ? mine[p] : yours[p];
        }
        return c;
    }

    private Frac meanFrom(int[] c, int p) {
        int at = p;
        for (int i = 0; i < 20; i++) {
            at = to(at, c[at]);
        }
        long sum = 0;
        long len = 0;
        int q = at;
        do {
            sum += payAt(c[q], s.weather);
            q = to(q, c[q]);
            len++;
        } while (q != at);
        return Frac.of(sum, len);
    }

    private Parsed cachedLand;
    private int cachedWeather = -1;
    private List<int[]> myPlans;
    private List<int[]> yourPlans;
    private Frac[][][] means;

    private void tabulate() {
        if (cachedLand == land && cachedWeather == s.weather) {
            return;
        }
        cachedLand = land;
        cachedWeather = s.weather;
        myPlans = choices(options(1));
        yourPlans = choices(options(0));
        means = new Frac[myPlans.size()][yourPlans.size()][places()];
        for (int i = 0; i < myPlans.size(); i++) {
            for (int j = 0; j < yourPlans.size(); j++) {
                int[] c = joined(myPlans.get(i), yourPlans.get(j));
                for (int p = 0; p < places(); p++) {
                    means[i][j][p] = meanFrom(c, p);
                }
            }
        }
    }

    private static Frac better(int which, Frac a, Frac b) {
        return a == null || (which == 0 ? b.compareTo(a) < 0 : b.compareTo(a) > 0) ? b : a;
    }

    private Frac extreme(int p, int which) {
        tabulate();
        Frac f = null;
        for (Frac[][] row : means) {
            for (Frac[] m : row) {
                f = better(which, f, m[p]);
            }
        }
        return f;
    }

    long ring(int p, int which, int what) {
        if (!isPlace(p) || which < 0 || which > 1 || what < 0 || what > 1) {
            return FAR - 2;
        }
        return extreme(p, which).part(what);
    }

    int reach(int p) {
        if (!isPlace(p)) {
            return -2;
        }
        TreeSet<Integer> seen = new TreeSet<>();
        List<Integer> todo = new ArrayList<>(List.of(p));
        while (!todo.isEmpty()) {
            int q = todo.remove(todo.size() - 1);
            if (seen.add(q)) {
                for (int way : ways(q, s.weather)) {
                    todo.add(to(q, way));
                }
            }
        }
        return bits(seen);
    }

    static int bits(Iterable<Integer> set) {
        int b = 0;
        for (int p : set) {
            b |= 1 << p;
        }
        return b;
    }

    int onRing(int which) {
        if (which < 0 || which > 1) {
            return -2;
        }
        tabulate();
        Frac all = null;
        for (int p = 0; p < places(); p++) {
            all = better(which, all, extreme(p, which));
        }
        TreeSet<Integer> on = new TreeSet<>();
        for (int i = 0; i < means.length; i++) {
            for (int j = 0; j < means[i].length; j++) {
                int[] c = joined(myPlans.get(i), yourPlans.get(j));
                for (int p = 0; p < places(); p++) {
                    if (means[i][j][p].equals(all)) {
                        int at = p;
                        for (int k = 0; k < 10; k++) {
                            at = to(at, c[at]);
                        }
                        for (int k = 0; k < 10; k++) {
                            on.add(at);
                            at = to(at, c[at]);
                        }
                    }
                }
            }
        }
        return bits(on);
    }

    // ---- the game

    private Frac securedByMine(int i, int p) {
        Frac f = null;
        for (int j = 0; j < yourPlans.size(); j++) {
            f = better(0, f, means[i][j][p]);
        }
        return f;
    }

    private Frac securedByYours(int j, int p) {
        Frac f = null;
        for (int i = 0; i < myPlans.size(); i++) {
            f = better(1, f, means[i][j][p]);
        }
        return f;
    }

    private Frac secured(int who, int k, int p) {
        return who == 1 ? securedByMine(k, p) : securedByYours(k, p);
    }

    /** From yours: by what neither can better it is the same as from mine. */
    Frac value(int p) {
        tabulate();
        Frac f = null;
        for (int j = 0; j < yourPlans.size(); j++) {
            f = better(0, f, securedByYours(j, p));
        }
        return f;
    }

    long worth(int p, int what) {
        if (!isPlace(p) || what < 0 || what > 1) {
            return FAR - 2;
        }
        return value(p).part(what);
    }

    int wins(int sign) {
        if (sign < 0 || sign > 2) {
            return -2;
        }
        TreeSet<Integer> l = new TreeSet<>();
        for (int p = 0; p < places(); p++) {
            if (value(p).above().signum() == sign - 1) {
                l.add(p);
            }
        }
        return bits(l);
    }

    int atLeast(int p, int a, int b) {
        if (!isPlace(p)) {
            return -2;
        }
        if (a < -9999 || a > 9999 || b < 1 || b > 99) {
            return -3;
        }
        return value(p).compareTo(Frac.of(a, b)) >= 0 ? 1 : 0;
    }

    int[] bestPlan(int who) {
        tabulate();
        List<int[]> l = who == 1 ? myPlans : yourPlans;
        for (int k = 0; k < l.size(); k++) {
            boolean all = true;
            for (int p = 0; p < places() && all; p++) {
                all = secured(who, k, p).equals(value(p));
            }
            if (all) {
                return l.get(k);
            }
        }
        throw new IllegalStateException("no best plan");
    }

    int best(int p) {
        return isPlace(p) ? bestPlan(land.mine.get(p) ? 1 : 0)[p] : -2;
    }

    private Frac setSecures(int who, int p) {
        tabulate();
        List<int[]> l = who == 1 ? myPlans : yourPlans;
        int[] set = new int[places()];
        for (int q = 0; q < places(); q++) {
            set[q] = land.mine.get(q) == (who == 1) ? byPlan(s, q) : -1;
        }
        for (int k = 0; k < l.size(); k++) {
            if (Arrays.equals(l.get(k), set)) {
                return secured(who, k, p);
            }
        }
        throw new IllegalStateException("no such plan");
    }

    long secures(int who, int p, int what) {
        if (who < 0 || who > 1 || !isPlace(p) || what < 0 || what > 1) {
            return FAR - 2;
        }
        return setSecures(who, p).part(what);
    }

    int meet() {
        TreeSet<Integer> l = new TreeSet<>();
        for (int p = 0; p < places(); p++) {
            if (setSecures(0, p).equals(setSecures(1, p))) {
                l.add(p);
            }
        }
        return bits(l);
    }

    int plans(int who, int p) {
        if (who < 0 || who > 1 || !isPlace(p)) {
            return -2;
        }
        Frac v = value(p);
        int n = 0;
        for (int k = 0; k < (who == 1 ? myPlans : yourPlans).size(); k++) {
            if (secured(who, k, p).equals(v)) {
                n++;
            }
        }
        return n;
    }

    int energy(int p) {
        if (!isPlace(p)) {
            return -2;
        }
        tabulate();
        long least = Long.MAX_VALUE;
        for (int[] mine : myPlans) {
            long most = 0;
            for (int[] yours : yourPlans) {
                most = Math.max(most, needOf(joined(mine, yours), p));
            }
            least = Math.min(least, most);
        }
        return least == Long.MAX_VALUE ? -1 : (int) least;
    }

    private long needOf(int[] c, int p) {
        if (meanFrom(c, p).above().signum() < 0) {
            return Long.MAX_VALUE;
        }
        long low = 0;
        long sum = 0;
        int at = p;
        for (int i = 0; i < 40; i++) {
            sum += payAt(c[at], s.weather);
            low = Math.min(low, sum);
            at = to(at, c[at]);
        }
        return -low;
    }

    // ---- going, by doubling

    private long[] jump(long n) {
        int[] next = new int[places()];
        long[] gain = new long[places()];
        for (int p = 0; p < places(); p++) {
            int way = byPlan(s, p);
            next[p] = to(p, way);
            gain[p] = payAt(way, s.weather);
        }
        int at = s.token;
        long got = 0;
        for (long left = n; left > 0; left >>= 1) {
            if ((left & 1) == 1) {
                got += gain[at];
                at = next[at];
            }
            int[] twice = new int[places()];
            long[] more = new long[places()];
            for (int p = 0; p < places(); p++) {
                twice[p] = next[next[p]];
                more[p] = gain[p] + gain[next[p]];
            }
            next = twice;
            gain = more;
        }
        return new long[] {at, s.purse + got};
    }

    int at(long n) {
        return n < 0 || n > 1_000_000_000_000_000L ? -3 : (int) jump(n)[0];
    }

    long purse(long n) {
        return n < 0 || n > 1_000_000_000_000_000L ? FAR - 3 : jump(n)[1];
    }

    int round(int what) {
        if (what < 0 || what > 1) {
            return -2;
        }
        int period = 1;
        while (jump(100 + period)[0] != jump(100)[0]) {
            period++;
        }
        int first = 0;
        while (jump(first)[0] != jump(first + period)[0]) {
            first++;
        }
        return what == 0 ? first : period;
    }

    long paid(int n) {
        if (n < 0 || n > 9999) {
            return FAR - 3;
        }
        State x = s.dup();
        long low = x.purse;
        for (int i = 0; i < n; i++) {
            go(x, byPlan(x, x.token));
            low = Math.min(low, x.purse);
        }
        return low;
    }

    int lists(int t) {
        if (t < 0 || t > 3) {
            return -2;
        }
        if (tray[t] == null) {
            return -6;
        }
        State x = s.dup();
        for (int i = 0; i < tray[t].length; i++) {
            int way = byPlan(x, x.token);
            tray[t][i] = way;
            go(x, way);
        }
        return tray[t].length;
    }

    // ---- rows

    private Map<Integer, Map<Integer, Integer>> rowMap(int n) {
        Map<Integer, Map<Integer, Integer>> now = new HashMap<>();
        now.put(s.token, new HashMap<>(Map.of(0, 1)));
        for (int i = 0; i < n; i++) {
            Map<Integer, Map<Integer, Integer>> then = new HashMap<>();
            now.forEach((p, sums) -> sums.forEach((sum, many) -> {
                for (int way : ways(p, s.weather)) {
                    then.computeIfAbsent(to(p, way), q -> new HashMap<>())
                        .merge(sum + payAt(way, s.weather), many, Integer::sum);
                }
            }));
            now = then;
        }
        return now;
    }

    int rows(int n, int paid) {
        if (n < 0 || n > 6) {
            return -3;
        }
        int all = 0;
        for (Map<Integer, Integer> m : rowMap(n).values()) {
            all += m.getOrDefault(paid, 0);
        }
        return all;
    }

    int sums(int n) {
        if (n < 0 || n > 6) {
            return -3;
        }
        TreeSet<Integer> all = new TreeSet<>();
        for (Map<Integer, Integer> m : rowMap(n).values()) {
            all.addAll(m.keySet());
        }
        return all.size();
    }

    int sumsAt(int p, int n) {
        if (!isPlace(p)) {
            return -2;
        }
        if (n < 0 || n > 6) {
            return -3;
        }
        return rowMap(n).getOrDefault(p, Map.of()).size();
    }

    /** A sum that some row pays, so that drawn calls of rows() don't all answer 0. */
    int someSum(java.util.Random random, int n) {
        State t = s.dup();
        for (int i = 0; i < n && n <= 6; i++) {
            List<Integer> l = ways(t.token, t.weather);
            go(t, l.get(random.nextInt(l.size())));
        }
        return (int) (t.purse - s.purse);
    }

    // ---- paid

    int weathers(int t) {
        if (t < 0 || t > 3) {
            return -2;
        }
        if (tray[t] == null) {
            return -6;
        }
        if (tray[t].length < 1 || tray[t].length > 8) {
            return -4;
        }
        TreeSet<Integer> l = new TreeSet<>();
        for (int w = 0; w < 10; w++) {
            boolean so = true;
            for (long v : tray[t]) {
                long r = Math.floorDiv(v, 1000L);
                long part = Math.floorMod(v, 1000L);
                if (r < 0 || r >= land.roads.size() || part < 1 || part > 199) {
                    return -3;
                }
                so = so && payAt((int) r, w) == part - 100;
            }
            if (so) {
                l.add(w);
            }
        }
        return bits(l);
    }

    int ask(int t) {
        int b = weathers(t);
        if (b < 0) {
            return b;
        }
        int asked = -1;
        int least = 99;
        for (int r = 0; r < land.roads.size() && b != 0; r++) {
            TreeMap<Integer, Integer> many = new TreeMap<>();
            for (int w = 0; w < 10; w++) {
                if ((b >> w & 1) == 1) {
                    many.merge(payAt(r, w), 1, Integer::sum);
                }
            }
            int most = many.values().stream().max(Integer::compare).get();
            if (most < least) {
                least = most;
                asked = r;
            }
        }
        return asked;
    }

    // ---- chances: each drawing of lots one by one, by its place and purse

    private Map<List<Long>, BigInteger> lots(int n) {
        Map<List<Long>, BigInteger> now = new HashMap<>();
        now.put(List.of((long) s.token, s.purse), BigInteger.ONE);
        for (int i = 0; i < n; i++) {
            Map<List<Long>, BigInteger> then = new HashMap<>();
            now.forEach((k, many) -> {
                int p = k.get(0).intValue();
                List<Integer> open = openFrom(p, s.weather);
                for (int lot = 0; lot < 10; lot++) {
                    List<Long> to = lot >= open.size() ? k
                        : List.of((long) to(p, open.get(lot)), k.get(1) + payAt(open.get(lot), s.weather));
                    then.merge(to, many, BigInteger::add);
                }
            });
            now = then;
        }
        return now;
    }

    int chance(int n, int what) {
        if (what < 0 || what > 1) {
            return -2;
        }
        if (n < 0 || n > 5) {
            return -3;
        }
        BigInteger good = BigInteger.ZERO;
        BigInteger all = BigInteger.ZERO;
        for (Map.Entry<List<Long>, BigInteger> e : lots(n).entrySet()) {
            all = all.add(e.getValue());
            good = e.getKey().get(1) >= 0 ? good.add(e.getValue()) : good;
        }
        return (int) Frac.of(good.longValueExact(), all.longValueExact()).part(what);
    }

    long mean(int n, int what) {
        if (what < 0 || what > 1) {
            return FAR - 2;
        }
        if (n < 0 || n > 5) {
            return FAR - 3;
        }
        BigInteger sum = BigInteger.ZERO;
        BigInteger all = BigInteger.ZERO;
        for (Map.Entry<List<Long>, BigInteger> e : lots(n).entrySet()) {
            all = all.add(e.getValue());
            sum = sum.add(e.getValue().multiply(BigInteger.valueOf(e.getKey().get(1))));
        }
        return Frac.of(sum.longValueExact(), all.longValueExact()).part(what);
    }

    // ---- trays, images

    int numbers(int t, int sort, int n) {
        if (t < 0 || t > 3 || sort < 0 || sort > 3) {
            return -2;
        }
        if (n < 0 || n > 40) {
            return -3;
        }
        traySort[t] = sort;
        tray[t] = new long[n];
        return 0;
    }

    long write(int t, int i, long v) {
        if (t < 0 || t > 3) {
            return -2;
        }
        if (tray[t] == null) {
            return -6;
        }
        if (i < 0 || i >= tray[t].length) {
            return -7;
        }
        int drop = 64 - (8 << traySort[t]);
        tray[t][i] = v << drop >> drop;
        return tray[t][i];
    }

    int image(int i) {
        if (i < 0 || i > 1) {
            return -2;
        }
        imageLand[i] = land;
        imageState[i] = s.dup();
        return 0;
    }

    int restore(int i) {
        if (i < 0 || i > 1) {
            return -2;
        }
        if (imageLand[i] == null) {
            return -5;
        }
        land = imageLand[i];
        s = imageState[i].dup();
        past.clear();
        return 0;
    }

    int count(int what) {
        TreeSet<Integer> mine = new TreeSet<>();
        for (int p = 0; p < places(); p++) {
            if (land.mine.get(p)) {
                mine.add(p);
            }
        }
        TreeSet<Integer> open = new TreeSet<>();
        for (int r = 0; r < land.roads.size(); r++) {
            if (opens(r, s.weather)) {
                open.add(r);
            }
        }
        int[] all = {places(), land.roads.size(), s.weather, s.token, s.moves, bits(mine), bits(open),
            past.size(), tape.length, land.lines};
        return what < 0 || what > 9 ? -1 : all[what];
    }
}
