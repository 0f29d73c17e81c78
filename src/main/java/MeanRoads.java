import java.util.Arrays;

/** Endless games on weighted roads; ../shared/DOC.md tells what each call answers. */
public final class MeanRoads {
    public static final int NONE = -1;

    private static final int NO_SUCH = -2;
    private static final int BAD_NUMBER = -3;
    private static final int TOO_MANY = -4;
    private static final int NOT_NOW = -5;
    private static final int MISSING = -6;
    private static final int NO_PLACE_IN_TRAY = -7;
    private static final int WHY_NOT = -10;
    private static final int BAD_TEXT = -30;
    private static final long FAR_BELOW = -9000000000000000000L;

    private static final int TAPE_LIMIT = 900;
    private static final int MOST_PLACES = 8;
    private static final int MOST_ROADS = 16;
    private static final int STAYING = 16;
    private static final int WEATHERS = 10;
    private static final int MOST_PAY = 99;
    private static final int LOTS = 10;
    private static final int MOST_IN_ROW = 6;
    private static final int MOST_DRAWN = 5;
    private static final int TRAYS = 4;
    private static final int TRAY_LIMIT = 40;
    private static final int IMAGES = 2;
    private static final int UNDO_LIMIT = 10;
    private static final long MOST_GOING = 1000000000000000L;

    /** A ring has 1 to 8 roads, so each mean is a whole number of 840ths. */
    private static final int PARTS = 840;

    private final byte[] tape = new byte[TAPE_LIMIT];
    private int tapeSize = 0;
    private final Reader reader = new Reader();
    private final Land ground = new Land();
    private final Stand now = new Stand();
    private final Stand trial = new Stand();
    private final Past past = new Past();
    private final Tray[] trays = new Tray[TRAYS];
    private final Land[] keptGrounds = new Land[IMAGES];
    private final Stand[] keptStands = new Stand[IMAGES];
    private final Survey survey = new Survey();
    private final Game game = new Game();
    private final Going going = new Going();
    private final Sums table = new Sums();
    private final int[] securedMine = new int[MOST_PLACES];
    private int imagesMade = 0;

    /** All rows are made here: what a call makes would count for each of an object's calls. */
    public MeanRoads() {
        for (int i = 0; i < trays.length; i++) {
            trays[i] = new Tray();
        }
        for (int i = 0; i < keptGrounds.length && i < keptStands.length; i++) {
            keptGrounds[i] = new Land();
            keptStands[i] = new Stand();
        }
    }

    // ---- the land

    public int feed(int a, int b, int c, int d, int e) {
        if (tapeSize + 20 > TAPE_LIMIT) {
            return NOT_NOW;
        }
        putBytes(a);
        putBytes(b);
        putBytes(c);
        putBytes(d);
        putBytes(e);
        return tapeSize;
    }

    private void putBytes(int four) {
        for (int shift = 24; shift >= 0; shift -= 8) {
            if (tapeSize < tape.length) {
                tape[tapeSize] = (byte) (four >>> shift);
                tapeSize++;
            }
        }
    }

    public int land(int n) {
        if (n < 0 || n > tapeSize) {
            return BAD_NUMBER;
        }
        reader.readText(tape, n);
        tapeSize = 0;
        if (reader.faultKind != 0) {
            return BAD_TEXT - reader.faultKind;
        }
        reader.settle(ground);
        now.begin(reader.sky);
        past.forget();
        game.forget();
        return ground.lines;
    }

    public int fault(int what) {
        if (what == 0) {
            return reader.faultKind;
        }
        return what == 1 ? reader.faultPlace : NONE;
    }

    public int place(int p, int what) {
        if (!ground.hasPlace(p)) {
            return NO_SUCH;
        }
        switch (what) {
            case 0:
                return ground.owner(p);
            case 1:
                return now.planOf(p);
            case 2:
                return Integer.bitCount(ground.openFrom(now.sky, p));
            case 3:
                return now.wayByPlan(ground, p);
            default:
                return NO_SUCH;
        }
    }

    public int road(int r, int what) {
        if (!ground.hasRoad(r)) {
            return NO_SUCH;
        }
        switch (what) {
            case 0:
                return ground.from[r];
            case 1:
                return ground.to[r];
            case 2:
                return ground.isOpen(now.sky, r) ? 1 : 0;
            default:
                return NO_SUCH;
        }
    }

    public long pay(int r) {
        return ground.hasRoad(r) ? ground.payOf(now.sky, r) : FAR_BELOW + NO_SUCH;
    }

    // ---- deeds

    public long move(int r) {
        int why = now.whyNotMove(ground, r);
        if (why != 0) {
            return FAR_BELOW + WHY_NOT - why;
        }
        past.keep(now);
        long before = now.money;
        now.goAlong(ground, r);
        return now.money - before;
    }

    public long moves(int n) {
        if (n < 1 || n > 99) {
            return FAR_BELOW + BAD_NUMBER;
        }
        past.keep(now);
        long before = now.money;
        for (int i = 0; i < n; i++) {
            now.goByPlan(ground);
        }
        return now.money - before;
    }

    public int plan(int p, int r) {
        int why = now.whyNotPlan(ground, p, r);
        if (why != 0) {
            return WHY_NOT - why;
        }
        past.keep(now);
        int was = now.planOf(p);
        now.setPlan(p, r);
        return was;
    }

    public int plays(int who) {
        if (!isPlayer(who)) {
            return NO_SUCH;
        }
        game.solve(ground, now.sky, survey);
        past.keep(now);
        int others = 0;
        for (int p = 0; p < ground.places; p++) {
            int way = game.bestWay(p);
            int planned = way == STAYING ? NONE : way;
            if (ground.owner(p) == who && now.planOf(p) != planned) {
                now.setPlan(p, planned);
                others++;
            }
        }
        return others;
    }

    public int weather(int n) {
        if (!isWeather(n)) {
            return WHY_NOT - 1;
        }
        past.keep(now);
        int was = now.sky;
        now.sky = n;
        return was;
    }

    public int undo(int n) {
        if (n < 1 || n > UNDO_LIMIT || n > past.size) {
            return BAD_NUMBER;
        }
        for (int i = 0; i < n; i++) {
            past.takeBack(now);
        }
        return past.size;
    }

    public int judge(int tray, int what) {
        if (!isTray(tray) || what < 0 || what > 3) {
            return NO_SUCH;
        }
        Tray deeds = trays[tray];
        if (deeds.isMissing()) {
            return MISSING;
        }
        trial.copy(now);
        int done = trial.doAll(ground, deeds);
        if (what == 2) {
            return trial.token;
        }
        if (what == 3) {
            return (int) (trial.money + 1000000);
        }
        boolean all = done >= deeds.size;
        if (what == 0) {
            return all ? NONE : done;
        }
        return all ? 0 : trial.tryDeed(ground, deeds.number(done));
    }

    public int perform(int tray) {
        if (!isTray(tray)) {
            return NO_SUCH;
        }
        Tray deeds = trays[tray];
        if (deeds.isMissing()) {
            return MISSING;
        }
        trial.copy(now);
        int done = now.doAll(ground, deeds);
        if (done > 0) {
            past.keep(trial);
        }
        return done;
    }

    public int journey(int seed, int times) {
        if (times < 1 || times > 40) {
            return BAD_NUMBER;
        }
        trial.copy(now);
        int x = seed;
        int could = 0;
        for (int i = 0; i < times; i++) {
            x = nextDraw(x);
            int kind = (x >>> 16) % 6;
            int deed = Stand.DEED_BY_PLAN;
            if (kind < 3) {
                x = nextDraw(x);
                deed = (x >>> 16) % 17;
            } else if (kind == 5) {
                x = nextDraw(x);
                deed = Stand.DEED_WEATHER + (x >>> 16) % WEATHERS;
            }
            if (now.tryDeed(ground, deed) == 0) {
                could++;
            }
        }
        if (could > 0) {
            past.keep(trial);
        }
        return could;
    }

    private static int nextDraw(int x) {
        return 1103515245 * x + 12345;
    }

    // ---- rings

    public int rings() {
        lookAtAll();
        return survey.found;
    }

    public long ring(int p, int which, int what) {
        if (!ground.hasPlace(p) || !isEither(which) || !isEither(what)) {
            return FAR_BELOW + NO_SUCH;
        }
        lookAtAll();
        return lowestTerms(which == 0 ? survey.least[p] : survey.greatest[p], PARTS, what);
    }

    public int reach(int p) {
        if (!ground.hasPlace(p)) {
            return NO_SUCH;
        }
        lookAtAll();
        return survey.reached[p];
    }

    public int onRing(int which) {
        if (!isEither(which)) {
            return NO_SUCH;
        }
        lookAtAll();
        return which == 0 ? survey.placesOnLeast() : survey.placesOnGreatest();
    }

    private void lookAtAll() {
        survey.allWays(ground, now.sky);
        survey.look();
    }

    // ---- the game

    public long worth(int p, int what) {
        if (!ground.hasPlace(p) || !isEither(what)) {
            return FAR_BELOW + NO_SUCH;
        }
        game.solve(ground, now.sky, survey);
        return lowestTerms(game.valueAt(p), PARTS, what);
    }

    public int wins(int sign) {
        if (sign < 0 || sign > 2) {
            return NO_SUCH;
        }
        game.solve(ground, now.sky, survey);
        int bits = 0;
        for (int p = 0; p < ground.places; p++) {
            if (Integer.signum(game.valueAt(p)) == sign - 1) {
                bits |= 1 << p;
            }
        }
        return bits;
    }

    public int atLeast(int p, int a, int b) {
        if (!ground.hasPlace(p)) {
            return NO_SUCH;
        }
        if (a < -9999 || a > 9999 || b < 1 || b > 99) {
            return BAD_NUMBER;
        }
        game.solve(ground, now.sky, survey);
        return game.valueAt(p) * b >= a * PARTS ? 1 : 0;
    }

    public int best(int p) {
        if (!ground.hasPlace(p)) {
            return NO_SUCH;
        }
        game.solve(ground, now.sky, survey);
        return game.bestWay(p);
    }

    public long secures(int who, int p, int what) {
        if (!isPlayer(who) || !ground.hasPlace(p) || !isEither(what)) {
            return FAR_BELOW + NO_SUCH;
        }
        lookAtPlanOf(who);
        return lowestTerms(survey.securedBy(who, p), PARTS, what);
    }

    private void lookAtPlanOf(int who) {
        survey.allWays(ground, now.sky);
        for (int p = 0; p < ground.places; p++) {
            if (ground.owner(p) == who) {
                survey.onlyWay(p, now.wayByPlan(ground, p));
            }
        }
        survey.look();
    }

    public int meet() {
        lookAtPlanOf(1);
        for (int p = 0; p < securedMine.length; p++) {
            securedMine[p] = survey.securedBy(1, p);
        }
        lookAtPlanOf(0);
        int bits = 0;
        for (int p = 0; p < ground.places && p < securedMine.length; p++) {
            if (securedMine[p] == survey.securedBy(0, p)) {
                bits |= 1 << p;
            }
        }
        return bits;
    }

    public int plans(int who, int p) {
        if (!isPlayer(who) || !ground.hasPlace(p)) {
            return NO_SUCH;
        }
        game.solve(ground, now.sky, survey);
        return game.goodPlans(who, p);
    }

    public int energy(int p) {
        if (!ground.hasPlace(p)) {
            return NO_SUCH;
        }
        game.raiseNeeds(ground, now.sky);
        return game.needAt(p);
    }

    // ---- going

    public int at(long n) {
        if (n < 0 || n > MOST_GOING) {
            return BAD_NUMBER;
        }
        going.follow(ground, now);
        return going.placeBehind(n);
    }

    public long purse(long n) {
        if (n < 0 || n > MOST_GOING) {
            return FAR_BELOW + BAD_NUMBER;
        }
        going.follow(ground, now);
        return now.money + going.paidBehind(n);
    }

    public int round(int what) {
        if (!isEither(what)) {
            return NO_SUCH;
        }
        going.follow(ground, now);
        return what == 0 ? going.before : going.period;
    }

    public long paid(int n) {
        if (n < 0 || n > 9999) {
            return FAR_BELOW + BAD_NUMBER;
        }
        going.follow(ground, now);
        return now.money + going.leastPaid(n);
    }

    // ---- rows

    public int rows(int n, int paid) {
        if (!isRow(n)) {
            return BAD_NUMBER;
        }
        countRows(n);
        return table.rowsPaying(paid);
    }

    public int sums(int n) {
        if (!isRow(n)) {
            return BAD_NUMBER;
        }
        countRows(n);
        return table.unlikeSums((1 << MOST_PLACES) - 1);
    }

    public int sumsAt(int p, int n) {
        if (!ground.hasPlace(p)) {
            return NO_SUCH;
        }
        if (!isRow(n)) {
            return BAD_NUMBER;
        }
        countRows(n);
        return table.unlikeSums(1 << p);
    }

    private static boolean isRow(int n) {
        return n >= 0 && n <= MOST_IN_ROW;
    }

    private void countRows(int n) {
        table.begin(now.token);
        for (int i = 0; i < n; i++) {
            table.stepByChoice(ground, now.sky);
        }
    }

    // ---- paid

    public int weathers(int tray) {
        if (!isTray(tray)) {
            return NO_SUCH;
        }
        Tray told = trays[tray];
        if (told.isMissing()) {
            return MISSING;
        }
        if (told.size < 1 || told.size > 8) {
            return TOO_MANY;
        }
        int bits = (1 << WEATHERS) - 1;
        for (int i = 0; i < told.size; i++) {
            long v = told.number(i);
            int part = (int) Math.floorMod(v, 1000L);
            if (v < 0 || v / 1000 >= ground.roads || part < 1 || part > 199) {
                return BAD_NUMBER;
            }
            bits &= ground.weathersPaying((int) (v / 1000), part - 100);
        }
        return bits;
    }

    public int ask(int tray) {
        int bits = weathers(tray);
        if (bits <= 0) {
            return bits == 0 ? NONE : bits;
        }
        int asked = NONE;
        int least = WEATHERS + 1;
        for (int r = 0; r < ground.roads; r++) {
            int most = ground.mostAlike(r, bits);
            if (most < least) {
                least = most;
                asked = r;
            }
        }
        return asked;
    }

    // ---- chances

    public int chance(int n, int what) {
        if (!isEither(what)) {
            return NO_SUCH;
        }
        if (n < 0 || n > MOST_DRAWN) {
            return BAD_NUMBER;
        }
        long all = drawLots(n);
        return (int) lowestTerms(table.rowsKeeping(now.money), all, what);
    }

    public long mean(int n, int what) {
        if (!isEither(what)) {
            return FAR_BELOW + NO_SUCH;
        }
        if (n < 0 || n > MOST_DRAWN) {
            return FAR_BELOW + BAD_NUMBER;
        }
        long all = drawLots(n);
        return lowestTerms(now.money * all + table.allPaid(), all, what);
    }

    private long drawLots(int n) {
        table.begin(now.token);
        long all = 1;
        for (int i = 0; i < n; i++) {
            table.stepByLots(ground, now.sky);
            all *= LOTS;
        }
        return all;
    }

    // ---- trays, images

    public int numbers(int tray, int sort, int n) {
        if (!isTray(tray) || sort < 0 || sort > 3) {
            return NO_SUCH;
        }
        if (n < 0 || n > TRAY_LIMIT) {
            return BAD_NUMBER;
        }
        trays[tray].renew(sort, n);
        return 0;
    }

    public long write(int tray, int i, long v) {
        if (!isTray(tray)) {
            return NO_SUCH;
        }
        Tray written = trays[tray];
        if (written.isMissing()) {
            return MISSING;
        }
        if (i < 0 || i >= written.size) {
            return NO_PLACE_IN_TRAY;
        }
        written.put(i, v);
        return written.number(i);
    }

    public int lists(int tray) {
        if (!isTray(tray)) {
            return NO_SUCH;
        }
        Tray listed = trays[tray];
        if (listed.isMissing()) {
            return MISSING;
        }
        going.follow(ground, now);
        for (int i = 0; i < listed.size; i++) {
            listed.put(i, going.wayBehind(i));
        }
        return listed.size;
    }

    public int image(int i) {
        if (!isImage(i)) {
            return NO_SUCH;
        }
        keptGrounds[i].copy(ground);
        keptStands[i].copy(now);
        imagesMade |= 1 << i;
        return 0;
    }

    public int restore(int i) {
        if (!isImage(i)) {
            return NO_SUCH;
        }
        if ((imagesMade >> i & 1) == 0) {
            return NOT_NOW;
        }
        ground.copy(keptGrounds[i]);
        now.copy(keptStands[i]);
        past.forget();
        game.forget();
        return 0;
    }

    public int count(int what) {
        switch (what) {
            case 0:
                return ground.places;
            case 1:
                return ground.roads;
            case 2:
                return now.sky;
            case 3:
                return now.token;
            case 4:
                return now.moved;
            case 5:
                return ground.mine;
            case 6:
                return ground.openRoads(now.sky);
            case 7:
                return past.size;
            case 8:
                return tapeSize;
            case 9:
                return ground.lines;
            default:
                return NONE;
        }
    }

    // ---- what several calls ask

    private static boolean isTray(int tray) {
        return tray >= 0 && tray < TRAYS;
    }

    private static boolean isImage(int i) {
        return i >= 0 && i < IMAGES;
    }

    private static boolean isEither(int what) {
        return what == 0 || what == 1;
    }

    private static boolean isPlayer(int who) {
        return isEither(who);
    }

    private static boolean isWeather(int n) {
        return n >= 0 && n < WEATHERS;
    }

    /** The number above (what 0) or below (what 1) of a fraction. */
    private static long lowestTerms(long above, long below, int what) {
        long a = Math.abs(above);
        long b = below;
        for (int i = 0; i < 200 && b != 0; i++) {
            long rest = a % b;
            a = b;
            b = rest;
        }
        if (a == 0) {
            return what == 0 ? above : below;
        }
        return what == 0 ? above / a : below / a;
    }

    /** What the text tells, with the laws worked out for each weather, so that images need no text. */
    private static final class Land {
        int places = 1;
        int mine = 1;
        int roads = 0;
        int lines = 0;
        final int[] from = new int[MOST_ROADS];
        final int[] to = new int[MOST_ROADS];
        final int[] leaving = new int[MOST_PLACES];
        final int[] open = new int[WEATHERS];
        final int[] pays = new int[WEATHERS * MOST_ROADS];

        void copy(Land other) {
            places = other.places;
            mine = other.mine;
            roads = other.roads;
            lines = other.lines;
            System.arraycopy(other.from, 0, from, 0, from.length);
            System.arraycopy(other.to, 0, to, 0, to.length);
            System.arraycopy(other.leaving, 0, leaving, 0, leaving.length);
            System.arraycopy(other.open, 0, open, 0, open.length);
            System.arraycopy(other.pays, 0, pays, 0, pays.length);
        }

        boolean hasPlace(int p) {
            return p >= 0 && p < places && p < MOST_PLACES;
        }

        boolean hasRoad(int r) {
            return r >= 0 && r < roads && r < MOST_ROADS;
        }

        /** 1: mine, 0: yours. */
        int owner(int p) {
            return mine >> p & 1;
        }

        int openRoads(int sky) {
            return sky >= 0 && sky < open.length ? open[sky] : 0;
        }

        int openFrom(int sky, int p) {
            return hasPlace(p) ? leaving[p] & openRoads(sky) : 0;
        }

        boolean isOpen(int sky, int r) {
            return hasRoad(r) && (openRoads(sky) >> r & 1) == 1;
        }

        /** Bits of all ways that can be gone from a place, never none. */
        int waysFrom(int sky, int p) {
            int bits = openFrom(sky, p);
            return bits == 0 ? 1 << STAYING : bits;
        }

        int payOf(int sky, int way) {
            return hasRoad(way) && isWeather(sky) ? pays[sky * MOST_ROADS + way] : 0;
        }

        /** The least that a move can pay, 0 at most. */
        int leastPaid(int sky) {
            int least = 0;
            for (int r = 0; r < MOST_ROADS; r++) {
                least = isOpen(sky, r) ? Math.min(least, payOf(sky, r)) : least;
            }
            return least;
        }

        /** The most that a move can pay, 0 at least. */
        int mostPaid(int sky) {
            int most = 0;
            for (int r = 0; r < MOST_ROADS; r++) {
                most = isOpen(sky, r) ? Math.max(most, payOf(sky, r)) : most;
            }
            return most;
        }

        int target(int here, int way) {
            return hasRoad(way) ? to[way] : here;
        }

        int weathersPaying(int r, int pay) {
            int bits = 0;
            for (int sky = 0; sky < WEATHERS; sky++) {
                if (payOf(sky, r) == pay) {
                    bits |= 1 << sky;
                }
            }
            return bits;
        }

        /** How many of these weathers at most give a road one and the same pay. */
        int mostAlike(int r, int weathers) {
            int most = 0;
            for (int sky = 0; sky < WEATHERS; sky++) {
                int alike = Integer.bitCount(weathersPaying(r, payOf(sky, r)) & weathers);
                most = Math.max(most, alike);
            }
            return most;
        }
    }

    /** All that a call can bring back by undoing, and the deeds that change it. */
    private static final class Stand {
        static final int DEED_WEATHER = 20;
        static final int DEED_BY_PLAN = 30;

        int token = 0;
        long money = 0;
        int moved = 0;
        int sky = 0;
        final int[] planned = new int[MOST_PLACES];

        Stand() {
            Arrays.fill(planned, NONE);
        }

        void begin(int weather) {
            token = 0;
            money = 0;
            moved = 0;
            sky = weather;
            Arrays.fill(planned, NONE);
        }

        void copy(Stand other) {
            token = other.token;
            money = other.money;
            moved = other.moved;
            sky = other.sky;
            System.arraycopy(other.planned, 0, planned, 0, planned.length);
        }

        int planOf(int p) {
            return p >= 0 && p < planned.length ? planned[p] : NONE;
        }

        void setPlan(int p, int r) {
            if (p >= 0 && p < planned.length) {
                planned[p] = r;
            }
        }

        int wayByPlan(Land land, int p) {
            int r = planOf(p);
            if (land.isOpen(sky, r)) {
                return r;
            }
            return Integer.numberOfTrailingZeros(land.waysFrom(sky, p));
        }

        int whyNotMove(Land land, int way) {
            if (way == STAYING) {
                return land.openFrom(sky, token) == 0 ? 0 : 1;
            }
            if (!land.hasRoad(way)) {
                return 1;
            }
            if (land.from[way] != token) {
                return 2;
            }
            return land.isOpen(sky, way) ? 0 : 3;
        }

        int whyNotPlan(Land land, int p, int r) {
            if (!land.hasPlace(p)) {
                return 1;
            }
            if (r == NONE) {
                return 0;
            }
            if (!land.hasRoad(r)) {
                return 1;
            }
            return land.from[r] == p ? 0 : 2;
        }

        void goAlong(Land land, int way) {
            money += land.payOf(sky, way);
            token = land.target(token, way);
            moved++;
        }

        void goByPlan(Land land) {
            goAlong(land, wayByPlan(land, token));
        }

        /** Does a told deed, or answers why not and changes nothing. */
        int tryDeed(Land land, long v) {
            if (v >= 0 && v <= STAYING) {
                int why = whyNotMove(land, (int) v);
                if (why == 0) {
                    goAlong(land, (int) v);
                }
                return why;
            }
            if (v >= DEED_WEATHER && v < DEED_WEATHER + WEATHERS) {
                sky = (int) v - DEED_WEATHER;
                return 0;
            }
            if (v == DEED_BY_PLAN) {
                goByPlan(land);
                return 0;
            }
            return v >= 1000 && v <= 8999 ? tryPlan(land, (int) v - 1000) : 1;
        }

        private int tryPlan(Land land, int v) {
            int p = v / 1000;
            int r = v % 1000 == 999 ? NONE : v % 1000;
            int why = whyNotPlan(land, p, r);
            if (why == 0) {
                setPlan(p, r);
            }
            return why;
        }

        /** Does the deeds in a tray till one can't be: how many. */
        int doAll(Land land, Tray deeds) {
            for (int i = 0; i < deeds.size; i++) {
                if (tryDeed(land, deeds.number(i)) != 0) {
                    return i;
                }
            }
            return deeds.size;
        }
    }

    /** The latest stands, in a circle of rows so that the eldest is overwritten. */
    private static final class Past {
        private final Stand[] kept = new Stand[UNDO_LIMIT];
        private int next = 0;
        int size = 0;

        Past() {
            for (int i = 0; i < kept.length; i++) {
                kept[i] = new Stand();
            }
        }

        void forget() {
            size = 0;
        }

        void keep(Stand stand) {
            if (next >= 0 && next < kept.length) {
                kept[next].copy(stand);
                next = (next + 1) % UNDO_LIMIT;
                size = Math.min(size + 1, UNDO_LIMIT);
            }
        }

        void takeBack(Stand stand) {
            int latest = (next + UNDO_LIMIT - 1) % UNDO_LIMIT;
            if (size > 0 && latest >= 0 && latest < kept.length) {
                stand.copy(kept[latest]);
                next = latest;
                size--;
            }
        }
    }

    private static final class Tray {
        private int sort = NONE;
        int size = 0;
        private final long[] values = new long[TRAY_LIMIT];

        boolean isMissing() {
            return sort == NONE;
        }

        void renew(int newSort, int n) {
            sort = newSort;
            size = Math.min(n, TRAY_LIMIT);
            Arrays.fill(values, 0);
        }

        long number(int i) {
            return i >= 0 && i < values.length ? values[i] : 0;
        }

        void put(int i, long v) {
            if (i >= 0 && i < values.length) {
                values[i] = cut(v);
            }
        }

        private long cut(long v) {
            switch (sort) {
                case 0:
                    return (byte) v;
                case 1:
                    return (short) v;
                case 2:
                    return (int) v;
                default:
                    return v;
            }
        }
    }

    /** The tokens of a text, one after the other. */
    private static final class Tokens {
        private static final int END = 0;
        private static final int BAD = 1;
        private static final int WORD = 2;
        private static final int NUMBER = 3;
        private static final int SIGN = 4;
        private static final String SIGNS = ";:+-*()[]=<>";

        private byte[] text = new byte[0];
        private int size = 0;
        private int end = 0;
        private int kind = END;
        int start = 0;
        int value = 0;

        void begin(byte[] bytes, int n) {
            text = bytes;
            size = Math.max(0, Math.min(n, bytes.length));
            end = 0;
            advance();
        }

        void advance() {
            start = end;
            while (start < size && (text[start] == 10 || text[start] == 32)) {
                start++;
            }
            end = start;
            if (start >= size) {
                kind = END;
            } else if (isLetter(text[start])) {
                kind = WORD;
                while (end < size && isLetter(text[end])) {
                    end++;
                }
            } else if (isDigit(text[start])) {
                value = 0;
                while (end < size && isDigit(text[end])) {
                    value = Math.min(value * 10 + text[end] - '0', 9999);
                    end++;
                }
                kind = end - start > 3 ? BAD : NUMBER;
            } else {
                kind = text[start] > 0 && SIGNS.indexOf((char) text[start]) >= 0 ? SIGN : BAD;
                end++;
            }
        }

        private static boolean isLetter(int b) {
            return b >= 'a' && b <= 'z';
        }

        private static boolean isDigit(int b) {
            return b >= '0' && b <= '9';
        }

        boolean isEnd() {
            return kind == END;
        }

        boolean isBad() {
            return kind == BAD;
        }

        boolean isNumber() {
            return kind == NUMBER;
        }

        boolean is(String told) {
            if (kind != WORD && kind != SIGN || end - start != told.length()) {
                return false;
            }
            for (int i = 0; i < told.length() && start + i < size; i++) {
                if (text[start + i] != told.charAt(i)) {
                    return false;
                }
            }
            return true;
        }
    }

    /** A law, operands ahead of what joins them, so that it is told with a stack alone. */
    private static final class Law {
        // codes below NAMED are the numbers 0 to 999 themselves
        static final int NAMED = 1000;
        static final int TOLD = 1000;
        static final int FROM = 1001;
        static final int TO = 1002;
        static final int ROAD = 1003;
        static final int WEATHER = 1004;
        static final int PLUS = 1010;
        static final int MINUS = 1011;
        static final int TIMES = 1012;
        static final int EQUAL = 1013;
        static final int BELOW = 1014;
        static final int ABOVE = 1015;
        static final int AND = 1016;
        static final int OR = 1017;
        static final int NOT = 1018;
        static final int CHOOSE = 1019;
        static final long BOUND = 1000000L;

        private final int[] code = new int[TAPE_LIMIT];
        private final int[] stack = new int[64];
        private int top = 0;
        int size = 0;

        void add(int c) {
            if (size < code.length) {
                code[size] = c;
                size++;
            }
        }

        private void push(int v) {
            if (top < stack.length) {
                stack[top] = v;
                top++;
            }
        }

        private int pop() {
            if (top > 0) {
                top--;
                return stack[top];
            }
            return 0;
        }

        /** What the law tells where these are told, from, to, road, weather; a truth as 1 or 0. */
        int tell(int[] named) {
            top = 0;
            for (int i = 0; i < size && i < code.length; i++) {
                int c = code[i];
                if (c < NAMED) {
                    push(c);
                } else if (c <= WEATHER) {
                    push(c - NAMED < named.length ? named[c - NAMED] : 0);
                } else if (c == NOT) {
                    push(1 - pop());
                } else if (c == CHOOSE) {
                    choose();
                } else {
                    int second = pop();
                    push(joined(c, pop(), second));
                }
            }
            return pop();
        }

        private void choose() {
            int otherwise = pop();
            int then = pop();
            push(pop() == 1 ? then : otherwise);
        }

        private static int joined(int c, int a, int b) {
            switch (c) {
                case PLUS:
                    return kept((long) a + b);
                case MINUS:
                    return kept((long) a - b);
                case TIMES:
                    return kept((long) a * b);
                case EQUAL:
                    return a == b ? 1 : 0;
                case BELOW:
                    return a < b ? 1 : 0;
                case ABOVE:
                    return a > b ? 1 : 0;
                case AND:
                    return a & b;
                default:
                    return a | b;
            }
        }

        private static int kept(long v) {
            return (int) Math.max(-BOUND, Math.min(BOUND, v));
        }
    }

    /** Reads a text; what it has read becomes the land only if there is no fault. */
    private static final class Reader {
        private static final int DEEPEST = 6;

        private final Tokens tokens = new Tokens();
        private final Law pays = new Law();
        private final Law open = new Law();
        private Law law = pays;
        private int places = 0;
        private int mine = 0;
        private int roads = 0;
        private int lines = 0;
        private final int[] from = new int[MOST_ROADS];
        private final int[] to = new int[MOST_ROADS];
        private final int[] told = new int[MOST_ROADS];
        private final int[] named = new int[5];
        int sky = 0;
        int faultKind = 0;
        int faultPlace = NONE;

        void readText(byte[] text, int n) {
            faultKind = 0;
            faultPlace = NONE;
            pays.size = 0;
            open.size = 0;
            places = 0;
            mine = 0;
            roads = 0;
            tokens.begin(text, n);
            expect("land");
            expect("weather");
            sky = number(WEATHERS - 1);
            expect(";");
            lines = 1;
            for (int i = 0; i < TAPE_LIMIT && faultKind == 0 && !tokens.isEnd(); i++) {
                readLine();
                lines++;
            }
        }

        private void refuse(int kind) {
            if (faultKind == 0) {
                faultKind = tokens.isBad() ? 1 : kind;
                faultPlace = tokens.start;
            }
        }

        private boolean take(String word) {
            if (faultKind == 0 && tokens.is(word)) {
                tokens.advance();
                return true;
            }
            return false;
        }

        private void expect(String word) {
            if (tokens.is(word) && faultKind == 0) {
                tokens.advance();
            } else {
                refuse(2);
            }
        }

        private int number(int most) {
            if (faultKind != 0 || !tokens.isNumber()) {
                refuse(2);
                return 0;
            }
            int value = tokens.value;
            if (value > most) {
                refuse(3);
                return 0;
            }
            tokens.advance();
            return value;
        }

        private void readLine() {
            if (tokens.is("place")) {
                readPlace();
            } else if (tokens.is("road")) {
                readRoad();
            } else if (take("pays")) {
                beginLaw(pays);
                sum(0);
            } else if (take("open")) {
                beginLaw(open);
                truth(0);
            } else {
                refuse(2);
            }
            expect(";");
        }

        private void beginLaw(Law begun) {
            expect(":");
            law = begun;
            law.size = 0;
        }

        private void readPlace() {
            if (places >= MOST_PLACES) {
                refuse(4);
                return;
            }
            tokens.advance();
            if (take("mine")) {
                mine |= 1 << places;
            } else {
                expect("yours");
            }
            places++;
        }

        private void readRoad() {
            if (roads >= MOST_ROADS) {
                refuse(4);
                return;
            }
            tokens.advance();
            from[roads] = number(places - 1);
            to[roads] = number(places - 1);
            boolean gains = take("gains");
            if (!gains) {
                expect("loses");
            }
            int much = number(99);
            told[roads] = gains ? much : -much;
            roads++;
        }

        /** Whether one more of not [ ( if may stand within so many. */
        private boolean mayDeepen(int depth) {
            if (depth >= DEEPEST) {
                refuse(4);
            }
            return faultKind == 0;
        }

        private void truth(int depth) {
            both(depth);
            for (int i = 0; i < TAPE_LIMIT && take("or"); i++) {
                both(depth);
                law.add(Law.OR);
            }
        }

        private void both(int depth) {
            unit(depth);
            for (int i = 0; i < TAPE_LIMIT && take("and"); i++) {
                unit(depth);
                law.add(Law.AND);
            }
        }

        private void unit(int depth) {
            if (faultKind != 0) {
                return;
            }
            if (tokens.is("not")) {
                if (mayDeepen(depth)) {
                    tokens.advance();
                    unit(depth + 1);
                    law.add(Law.NOT);
                }
            } else if (tokens.is("[")) {
                if (mayDeepen(depth)) {
                    tokens.advance();
                    truth(depth + 1);
                    expect("]");
                }
            } else {
                sum(depth);
                int comparing = comparison();
                sum(depth);
                law.add(comparing);
            }
        }

        private int comparison() {
            if (take("=")) {
                return Law.EQUAL;
            }
            if (take("<")) {
                return Law.BELOW;
            }
            expect(">");
            return Law.ABOVE;
        }

        private void sum(int depth) {
            term(depth);
            for (int i = 0; i < TAPE_LIMIT; i++) {
                boolean plus = take("+");
                if (!plus && !take("-")) {
                    return;
                }
                term(depth);
                law.add(plus ? Law.PLUS : Law.MINUS);
            }
        }

        private void term(int depth) {
            atom(depth);
            for (int i = 0; i < TAPE_LIMIT && take("*"); i++) {
                atom(depth);
                law.add(Law.TIMES);
            }
        }

        private void atom(int depth) {
            if (faultKind != 0) {
                return;
            }
            if (tokens.isNumber()) {
                law.add(tokens.value);
                tokens.advance();
            } else if (tokens.is("(")) {
                if (mayDeepen(depth)) {
                    tokens.advance();
                    sum(depth + 1);
                    expect(")");
                }
            } else if (tokens.is("if")) {
                if (mayDeepen(depth)) {
                    tokens.advance();
                    choice(depth + 1);
                }
            } else if (nameCode() != NONE) {
                law.add(nameCode());
                tokens.advance();
            } else {
                refuse(2);
            }
        }

        private void choice(int depth) {
            truth(depth);
            expect("then");
            sum(depth);
            expect("else");
            sum(depth);
            expect("end");
            law.add(Law.CHOOSE);
        }

        private int nameCode() {
            if (tokens.is("told")) {
                return Law.TOLD;
            }
            if (tokens.is("from")) {
                return Law.FROM;
            }
            if (tokens.is("to")) {
                return Law.TO;
            }
            if (tokens.is("road")) {
                return Law.ROAD;
            }
            return tokens.is("weather") ? Law.WEATHER : NONE;
        }

        void settle(Land land) {
            land.places = places == 0 ? 1 : places;
            land.mine = places == 0 ? 1 : mine;
            land.roads = roads;
            land.lines = lines;
            Arrays.fill(land.leaving, 0);
            Arrays.fill(land.open, 0);
            for (int r = 0; r < roads && r < MOST_ROADS; r++) {
                land.from[r] = from[r];
                land.to[r] = to[r];
                if (land.hasPlace(from[r])) {
                    land.leaving[from[r]] |= 1 << r;
                }
                for (int w = 0; w < WEATHERS; w++) {
                    settleRoad(land, w, r);
                }
            }
        }

        private void settleRoad(Land land, int w, int r) {
            named[0] = told[r];
            named[1] = from[r];
            named[2] = to[r];
            named[3] = r;
            named[4] = w;
            int pay = pays.size == 0 ? told[r] : pays.tell(named);
            land.pays[w * MOST_ROADS + r] = Math.max(-MOST_PAY, Math.min(MOST_PAY, pay));
            if (open.size == 0 || open.tell(named) == 1) {
                land.open[w] |= 1 << r;
            }
        }
    }

    /** All rings along some ways: how many, and which means can be come to from where. */
    private static final class Survey {
        private Land land = null;
        private int sky = 0;
        private int root = 0;
        final int[] ways = new int[MOST_PLACES];
        final int[] reached = new int[MOST_PLACES];
        private final int[] leastHere = new int[MOST_PLACES];
        private final int[] greatestHere = new int[MOST_PLACES];
        final int[] least = new int[MOST_PLACES];
        final int[] greatest = new int[MOST_PLACES];
        int found = 0;

        void allWays(Land ground, int weather) {
            land = ground;
            sky = weather;
            for (int p = 0; p < ways.length; p++) {
                ways[p] = ground.waysFrom(weather, p);
            }
        }

        void onlyWay(int p, int way) {
            if (p >= 0 && p < ways.length) {
                ways[p] = 1 << way;
            }
        }

        int securedBy(int who, int p) {
            if (p < 0 || p >= least.length) {
                return 0;
            }
            return who == 1 ? least[p] : greatest[p];
        }

        private int placeCount() {
            return land == null ? 0 : Math.min(land.places, MOST_PLACES);
        }

        void look() {
            found = 0;
            Arrays.fill(leastHere, Integer.MAX_VALUE);
            Arrays.fill(greatestHere, Integer.MIN_VALUE);
            Arrays.fill(reached, 0);
            int places = placeCount();
            for (int p = 0; p < places; p++) {
                root = p;
                walk(p, 1 << p, 0, 1);
            }
            reachAll(places);
            for (int p = 0; p < places; p++) {
                gather(p, places);
            }
        }

        /** A ring is found from its lowest place alone, so that it counts once. */
        private void walk(int here, int seen, int paid, int length) {
            if (land == null || here < 0 || here >= ways.length || length < 1 || length > MOST_PLACES) {
                return;
            }
            for (int way = 0; way <= STAYING; way++) {
                if ((ways[here] >> way & 1) == 1) {
                    int next = land.target(here, way);
                    int sum = paid + land.payOf(sky, way);
                    reached[here] |= 1 << next;
                    if (next == root) {
                        note(seen, sum * PARTS / length);
                    } else if (next > root && (seen >> next & 1) == 0) {
                        walk(next, seen | 1 << next, sum, length + 1);
                    }
                }
            }
        }

        private void note(int ring, int mean) {
            found++;
            for (int p = 0; p < leastHere.length; p++) {
                if ((ring >> p & 1) == 1) {
                    leastHere[p] = Math.min(leastHere[p], mean);
                    greatestHere[p] = Math.max(greatestHere[p], mean);
                }
            }
        }

        /** The walks have left in reached what one move reaches. */
        private void reachAll(int places) {
            for (int p = 0; p < places; p++) {
                reached[p] |= 1 << p;
            }
            for (int by = 0; by < places; by++) {
                for (int p = 0; p < places; p++) {
                    if ((reached[p] >> by & 1) == 1) {
                        reached[p] |= reached[by];
                    }
                }
            }
        }

        private void gather(int p, int places) {
            least[p] = Integer.MAX_VALUE;
            greatest[p] = Integer.MIN_VALUE;
            for (int q = 0; q < places; q++) {
                if ((reached[p] >> q & 1) == 1) {
                    least[p] = Math.min(least[p], leastHere[q]);
                    greatest[p] = Math.max(greatest[p], greatestHere[q]);
                }
            }
        }

        int placesOnLeast() {
            int all = Integer.MAX_VALUE;
            for (int p = 0; p < placeCount(); p++) {
                all = Math.min(all, leastHere[p]);
            }
            return placesEqual(leastHere, all);
        }

        int placesOnGreatest() {
            int all = Integer.MIN_VALUE;
            for (int p = 0; p < placeCount(); p++) {
                all = Math.max(all, greatestHere[p]);
            }
            return placesEqual(greatestHere, all);
        }

        private int placesEqual(int[] means, int wanted) {
            int bits = 0;
            for (int p = 0; p < placeCount() && p < means.length; p++) {
                if (means[p] == wanted) {
                    bits |= 1 << p;
                }
            }
            return bits;
        }
    }

    /** What the game is worth, by looking at every whole plan of either player, and the purse it needs. */
    private static final class Game {
        /** 16 roads from 8 places give 3*3*3*3*4 whole plans at most. */
        private static final int MOST_PLANS = 324;
        /** Where some purse is enough, it need not bear more than 7 moves that lose 99. */
        private static final int ENDLESS = 8 * MOST_PAY;

        private int solvedSky = NONE;
        private final int[] full = new int[MOST_PLACES];
        private final int[] value = new int[MOST_PLACES];
        private final int[] chosen = new int[MOST_PLACES];
        private final int[] goodMine = new int[MOST_PLACES];
        private final int[] goodYours = new int[MOST_PLACES];
        private final int[] need = new int[MOST_PLACES];

        void forget() {
            solvedSky = NONE;
        }

        int valueAt(int p) {
            return p >= 0 && p < value.length ? value[p] : 0;
        }

        int bestWay(int p) {
            return p >= 0 && p < chosen.length ? chosen[p] : STAYING;
        }

        void solve(Land land, int sky, Survey survey) {
            if (solvedSky == sky) {
                return;
            }
            for (int p = 0; p < full.length; p++) {
                full[p] = land.waysFrom(sky, p);
            }
            survey.allWays(land, sky);
            weighPlans(land, survey, 0, goodYours);
            survey.allWays(land, sky);
            weighPlans(land, survey, 1, goodMine);
            solvedSky = sky;
        }

        /** Goes through a player's whole plans: what the best of them secure, how many do from each place, the first best. */
        private void weighPlans(Land land, Survey survey, int who, int[] good) {
            firstPlan(land, who, survey.ways);
            Arrays.fill(good, 0);
            boolean more = true;
            boolean found = false;
            for (int k = 0; k < MOST_PLANS && more; k++) {
                survey.look();
                boolean raised = raiseValues(land, survey, who, good);
                boolean isBest = isBestSoFar(land, survey, who);
                if (isBest && (raised || !found)) {
                    keepPlan(land, who, survey.ways);
                }
                found = isBest || found && !raised;
                more = nextPlan(land, who, survey.ways);
            }
        }

        /** Whether the plan looked at secures from some place more for its player than those before. */
        private boolean raiseValues(Land land, Survey survey, int who, int[] good) {
            boolean raised = false;
            for (int p = 0; p < land.places && p < value.length && p < good.length; p++) {
                int secured = survey.securedBy(who, p);
                if (good[p] == 0 || (who == 1 ? secured > value[p] : secured < value[p])) {
                    value[p] = secured;
                    good[p] = 0;
                    raised = true;
                }
                if (secured == value[p]) {
                    good[p]++;
                }
            }
            return raised;
        }

        private boolean isBestSoFar(Land land, Survey survey, int who) {
            for (int p = 0; p < land.places && p < value.length; p++) {
                if (survey.securedBy(who, p) != value[p]) {
                    return false;
                }
            }
            return true;
        }

        private void keepPlan(Land land, int who, int[] ways) {
            for (int p = 0; p < land.places && p < chosen.length && p < ways.length; p++) {
                if (land.owner(p) == who) {
                    chosen[p] = Integer.numberOfTrailingZeros(ways[p]);
                }
            }
        }

        private void firstPlan(Land land, int who, int[] ways) {
            for (int p = 0; p < land.places && p < full.length && p < ways.length; p++) {
                if (land.owner(p) == who) {
                    ways[p] = Integer.lowestOneBit(full[p]);
                }
            }
        }

        /** The last place changes first, so that the plans come way by way from place 0 on. */
        private boolean nextPlan(Land land, int who, int[] ways) {
            for (int p = Math.min(land.places, full.length) - 1; p >= 0; p--) {
                if (land.owner(p) == who && p < ways.length) {
                    int later = full[p] & -(ways[p] << 1);
                    if (later != 0) {
                        ways[p] = Integer.lowestOneBit(later);
                        return true;
                    }
                    ways[p] = Integer.lowestOneBit(full[p]);
                }
            }
            return false;
        }

        int goodPlans(int who, int p) {
            if (p < 0 || p >= MOST_PLACES) {
                return 0;
            }
            return who == 1 ? goodMine[p] : goodYours[p];
        }

        int needAt(int p) {
            if (p < 0 || p >= need.length || need[p] >= ENDLESS) {
                return NONE;
            }
            return need[p];
        }

        /** What one must start with is raised from 0 on, as long as it is not enough. */
        void raiseNeeds(Land land, int sky) {
            Arrays.fill(need, 0);
            boolean raised = true;
            for (int i = 0; i <= MOST_PLACES * ENDLESS && raised; i++) {
                raised = false;
                for (int p = 0; p < land.places && p < need.length; p++) {
                    int more = needFrom(land, sky, p);
                    raised = raised || more > need[p];
                    need[p] = more;
                }
            }
        }

        private int needFrom(Land land, int sky, int p) {
            boolean mine = land.owner(p) == 1;
            int ways = land.waysFrom(sky, p);
            int answer = mine ? ENDLESS : 0;
            for (int way = 0; way <= STAYING; way++) {
                if ((ways >> way & 1) == 1) {
                    int along = needAlong(land.target(p, way), land.payOf(sky, way));
                    answer = mine ? Math.min(answer, along) : Math.max(answer, along);
                }
            }
            return answer;
        }

        private int needAlong(int next, int pay) {
            if (next < 0 || next >= need.length || need[next] >= ENDLESS) {
                return ENDLESS;
            }
            return Math.max(0, Math.min(ENDLESS, need[next] - pay));
        }
    }

    /** Moves by plan from now on: a way in, then a ring for ever. */
    private static final class Going {
        private final int[] places = new int[MOST_PLACES + 1];
        private final int[] ways = new int[MOST_PLACES + 1];
        private final int[] paidBy = new int[MOST_PLACES + 2];
        private final int[] seenAt = new int[MOST_PLACES];
        int before = 0;
        int period = 1;

        void follow(Land land, Stand stand) {
            Arrays.fill(seenAt, NONE);
            int here = stand.token;
            before = 0;
            period = 1;
            for (int i = 0; i <= MOST_PLACES && here >= 0 && here < seenAt.length; i++) {
                if (seenAt[here] != NONE) {
                    before = seenAt[here];
                    period = i - before;
                    return;
                }
                seenAt[here] = i;
                places[i] = here;
                ways[i] = stand.wayByPlan(land, here);
                paidBy[i + 1] = paidBy[i] + land.payOf(stand.sky, ways[i]);
                here = land.target(here, ways[i]);
            }
        }

        /** Which of the moves and places kept is as behind n moves. */
        private int index(long n) {
            if (n < before || period < 1) {
                return (int) Math.max(0, Math.min(n, before));
            }
            return before + (int) ((n - before) % period);
        }

        int placeBehind(long n) {
            int i = index(n);
            return i >= 0 && i < places.length ? places[i] : 0;
        }

        int wayBehind(long n) {
            int i = index(n);
            return i >= 0 && i < ways.length ? ways[i] : STAYING;
        }

        private int paidIn(int i) {
            return i >= 0 && i < paidBy.length ? paidBy[i] : 0;
        }

        long paidBehind(long n) {
            long rounds = n < before || period < 1 ? 0 : (n - before) / period;
            return paidIn(index(n)) + rounds * (paidIn(before + period) - paidIn(before));
        }

        /** Of moves alike the first or the last pays least, so those between need no look. */
        long leastPaid(int n) {
            long least = 0;
            for (int i = 0; i <= n && i <= before + period; i++) {
                least = Math.min(least, paidBehind(i));
            }
            for (int i = Math.max(0, n - period); i <= n; i++) {
                least = Math.min(least, paidBehind(i));
            }
            return least;
        }
    }

    /** How many rows of moves lie on each place with each sum, the sums from the least that can be on. */
    private static final class Sums {
        private static final int MOST_SUMS = 2 * MOST_IN_ROW * MOST_PAY + 1;

        private final int[] counts = new int[MOST_SUMS * MOST_PLACES];
        private final int[] lying = new int[MOST_PLACES];
        private final int[] arriving = new int[MOST_PLACES];
        private int least = 0;
        private int size = 1;

        void begin(int token) {
            least = 0;
            size = 1;
            for (int p = 0; p < MOST_PLACES; p++) {
                counts[p] = p == token ? 1 : 0;
            }
        }

        /** Rows with the k-th sum; what the table holds behind the last sum is old. */
        private int rowsAt(int k, int p) {
            boolean isIn = k >= 0 && k < size && p >= 0 && p < MOST_PLACES;
            return isIn ? counts[k * MOST_PLACES + p] : 0;
        }

        void stepByChoice(Land land, int sky) {
            for (int p = 0; p < MOST_PLACES; p++) {
                lying[p] = land.openFrom(sky, p) == 0 ? 1 : 0;
            }
            step(land, sky, land.openRoads(sky));
        }

        void stepByLots(Land land, int sky) {
            int roads = 0;
            for (int p = 0; p < MOST_PLACES; p++) {
                int drawn = firstBits(land.openFrom(sky, p), LOTS);
                lying[p] = LOTS - Integer.bitCount(drawn);
                roads |= drawn;
            }
            step(land, sky, roads);
        }

        private static int firstBits(int bits, int most) {
            int rest = bits;
            for (int i = 0; i < most; i++) {
                rest &= rest - 1;
            }
            return bits & ~rest;
        }

        /** From the greatest sum down: each comes from places in the table that are not yet overwritten. */
        private void step(Land land, int sky, int roads) {
            int low = land.leastPaid(sky);
            int sums = Math.min(MOST_SUMS, size + land.mostPaid(sky) - low);
            for (int k = sums - 1; k >= 0; k--) {
                for (int p = 0; p < MOST_PLACES; p++) {
                    arriving[p] = lying[p] * rowsAt(k + low, p);
                }
                for (int r = 0; r < MOST_ROADS; r++) {
                    if ((roads >> r & 1) == 1) {
                        arrive(land, r, k + low - land.payOf(sky, r));
                    }
                }
                System.arraycopy(arriving, 0, counts, k * MOST_PLACES, MOST_PLACES);
            }
            least += low;
            size = sums;
        }

        private void arrive(Land land, int r, int k) {
            int to = land.target(NONE, r);
            if (to >= 0 && to < arriving.length && land.hasRoad(r)) {
                arriving[to] += rowsAt(k, land.from[r]);
            }
        }

        int rowsPaying(int paid) {
            return paid < least || paid >= least + size ? 0 : rowsWith(paid - least);
        }

        private int rowsWith(int k) {
            int rows = 0;
            for (int p = 0; p < MOST_PLACES; p++) {
                rows += rowsAt(k, p);
            }
            return rows;
        }

        int unlikeSums(int placeBits) {
            int unlike = 0;
            for (int k = 0; k < size; k++) {
                boolean some = false;
                for (int p = 0; p < MOST_PLACES; p++) {
                    some = some || (placeBits >> p & 1) == 1 && rowsAt(k, p) != 0;
                }
                if (some) {
                    unlike++;
                }
            }
            return unlike;
        }

        /** Rows behind which so much at first is not below 0. */
        long rowsKeeping(long money) {
            long rows = 0;
            for (int k = 0; k < size; k++) {
                if (money + least + k >= 0) {
                    rows += rowsWith(k);
                }
            }
            return rows;
        }

        long allPaid() {
            long all = 0;
            for (int k = 0; k < size; k++) {
                all += (long) (least + k) * rowsWith(k);
            }
            return all;
        }
    }
}
