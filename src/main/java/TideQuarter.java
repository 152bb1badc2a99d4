import java.util.Arrays;

/** An island that turns by one quarter to the right with every flood. */
public final class TideQuarter {
    private static final int BEYOND = -1000000001;
    private static final int FULL = -1000000002;
    private static final int KIND = -1000000003;
    private static final int NONE = -1000000004;
    private static final int MISSING = -1000000006;
    private static final int SIZE = -1000000007;
    private static final int FINDINGS = 7;

    private static final int DAY = 96;
    private static final int HOURS = 24;
    private static final int LAST_TICK = 9999;
    private static final int REACH = 960;
    private static final int SIDES = 4;
    private static final int NOWHERE = -1;
    private static final int ANY = -1;
    private static final int MOST_HOUSES = 8;
    private static final int MOST_SHIPS = 6;
    private static final int SHEETS = 4;

    private final Isle now = new Isle();
    private final Isle draft = new Isle();
    private final Isle kept = new Isle();
    private boolean hasImage = false;
    private final Tally tally = new Tally();
    private final Harbour harbour = new Harbour();
    private final Teller teller = new Teller();
    private final Tape tape = teller.tape;
    private final Sheet[] sheets = new Sheet[SHEETS];
    private final int[] found = new int[FINDINGS];

    public TideQuarter() {
        for (int s = 0; s < SHEETS; s++) {
            sheets[s] = new Sheet();
        }
    }

    // ---- tides

    public int tides(int what, int v) {
        if (!Tides.mayBe(what, v)) {
            return refuse(BEYOND);
        }
        harbour.forget();
        int was = now.tides.told[what];
        now.tides.told[what] = v;
        return was;
    }

    public int sets(int what, int set) {
        if (what < 0 || what >= Tides.SETS || (set >>> Tides.LISTED) != 0) {
            return refuse(BEYOND);
        }
        harbour.forget();
        int was = now.tides.listed[what];
        now.tides.listed[what] = set;
        return was;
    }

    public int wind(int side, int force) {
        if (!isSide(side) || force < 0 || force > Isle.MOST_FORCE) {
            return refuse(BEYOND);
        }
        int was = now.force;
        now.blowsFrom = side;
        now.force = force;
        return was;
    }

    public int tide(int k, int what) {
        if (k < 0 || k > 199 || what < 0 || what > 1) {
            return refuse(BEYOND);
        }
        return what == 0 ? now.tides.begins(k) : now.tides.ends(k);
    }

    public int turned(int tick) {
        if (!isTick(tick)) {
            return refuse(BEYOND);
        }
        now.tides.at(tick);
        return now.tides.quarters;
    }

    public int between(int tick) {
        if (!isTick(tick)) {
            return refuse(BEYOND);
        }
        now.tides.at(tick);
        return now.tides.isBetween ? 1 : 0;
    }

    public int looks(int front, int tick) {
        if (!isSide(front) || !isTick(tick)) {
            return refuse(BEYOND);
        }
        now.tides.at(tick);
        return now.tides.sideOf(front);
    }

    public int front(int side, int tick) {
        if (!isSide(side) || !isTick(tick)) {
            return refuse(BEYOND);
        }
        now.tides.at(tick);
        return now.tides.isBetween ? refuse(NONE) : now.tides.frontTo(side);
    }

    public int when(int front, int side, int tick) {
        if (!isSide(front) || !isSide(side) || !isTick(tick)) {
            return refuse(BEYOND);
        }
        for (int t = tick; t < tick + REACH; t++) {
            now.tides.at(t);
            if (now.tides.sideOf(front) == side) {
                return t;
            }
        }
        return refuse(NONE);
    }

    // ---- houses

    public int house(int kind, int front) {
        if (!Isle.isKind(kind) || !isSide(front)) {
            return refuse(BEYOND);
        }
        if (now.houses >= MOST_HOUSES) {
            return refuse(FULL);
        }
        return now.addHouse(kind, front);
    }

    public int houseOf(int house, int what) {
        if (!isHouse(house) || what < 0 || what > 1) {
            return refuse(BEYOND);
        }
        return what == 0 ? now.kinds[house] : now.fronts[house];
    }

    public int turn(int house, int v) {
        if (!isHouse(house) || !isSide(v)) {
            return refuse(BEYOND);
        }
        int was = now.fronts[house];
        now.fronts[house] = v;
        return was;
    }

    public int as(int house, int kind) {
        if (!isHouse(house) || !Isle.isKind(kind)) {
            return refuse(BEYOND);
        }
        if (!Isle.isUnder(now.kinds[house], kind)) {
            return refuse(KIND);
        }
        return now.fronts[house];
    }

    public int gain(int house, int tick) {
        if (!isHouse(house) || !isTick(tick)) {
            return refuse(BEYOND);
        }
        now.tides.at(tick);
        return now.gainOf(now.kinds[house], now.tides.sideOf(now.fronts[house]), hourOf(tick));
    }

    public int sum(int house, int tick, int n) {
        if (!isHouse(house) || !isSpan(tick, n)) {
            return refuse(BEYOND);
        }
        tally.watch(now.tides, tick, n);
        return tally.sumOf(now, now.kinds[house], now.fronts[house]);
    }

    public int best(int house, int tick, int n) {
        if (!isHouse(house) || !isSpan(tick, n)) {
            return refuse(BEYOND);
        }
        tally.watch(now.tides, tick, n);
        int bestFront = 0;
        int most = tally.sumOf(now, now.kinds[house], 0);
        for (int f = 1; f < SIDES; f++) {
            int sum = tally.sumOf(now, now.kinds[house], f);
            if (sum > most) {
                bestFront = f;
                most = sum;
            }
        }
        return bestFront;
    }

    public int sunniest(int tick, int n) {
        if (!isSpan(tick, n)) {
            return refuse(BEYOND);
        }
        if (now.houses == 0) {
            return refuse(NONE);
        }
        tally.watch(now.tides, tick, n);
        int sunniestHouse = 0;
        int most = tally.sumOf(now, now.kinds[0], now.fronts[0]);
        for (int h = 1; h < now.houses; h++) {
            int sum = tally.sumOf(now, now.kinds[h], now.fronts[h]);
            if (sum > most) {
                sunniestHouse = h;
                most = sum;
            }
        }
        return sunniestHouse;
    }

    public int days(int house, int side, int hour, int tick) {
        if (!isHouse(house) || !isSide(side) || hour < 0 || hour >= HOURS || !isTick(tick)) {
            return refuse(BEYOND);
        }
        int first = tick - tick % DAY + hour * 4;
        int many = 0;
        for (int d = 0; d < 30; d++) {
            if (looksInHour(now.fronts[house], side, first + d * DAY)) {
                many++;
            }
        }
        return many;
    }

    public int exchange(int tick, int n) {
        if (!isSpan(tick, n)) {
            return refuse(BEYOND);
        }
        tally.watch(now.tides, tick, n);
        tally.reckonAll(now);
        int pair = NONE;
        int most = 0;
        for (int a = 0; a < now.houses; a++) {
            for (int b = a + 1; b < now.houses; b++) {
                int more = moreByExchange(a, b);
                if (more > most) {
                    pair = 10 * a + b;
                    most = more;
                }
            }
        }
        return pair == NONE ? refuse(NONE) : pair;
    }

    // ---- ships

    public int ship(int course, int comes, int stays) {
        if (!isSide(course) || !isTick(comes) || stays < 1 || stays > Isle.MOST_STAYS) {
            return refuse(BEYOND);
        }
        if (now.ships >= MOST_SHIPS) {
            return refuse(FULL);
        }
        harbour.forget();
        return now.addShip(course, comes, stays, ANY);
    }

    public int shipOf(int ship, int what) {
        if (!isShip(ship)) {
            return refuse(BEYOND);
        }
        switch (what) {
            case 0:
                return now.courses[ship];
            case 1:
                return now.comes[ship];
            case 2:
                return now.stays[ship];
            case 3:
                return now.quays[ship];
            default:
                return refuse(BEYOND);
        }
    }

    public int quay(int ship, int v) {
        if (!isShip(ship) || v < ANY || v >= SIDES) {
            return refuse(BEYOND);
        }
        harbour.forget();
        int was = now.quays[ship];
        now.quays[ship] = v;
        return was;
    }

    public int clear() {
        harbour.forget();
        int was = now.ships;
        now.ships = 0;
        return was;
    }

    public int lies(int ship, int front, int tick) {
        if (!isShip(ship) || !isSide(front) || !isTick(tick)) {
            return refuse(BEYOND);
        }
        now.tides.at(tick);
        boolean looksThere = now.tides.sideOf(front) == now.courses[ship];
        return looksThere && now.tides.calmTill() - tick >= now.stays[ship] ? 1 : 0;
    }

    public int entry(int ship, int what) {
        if (!isShip(ship) || what < 0 || what > 1) {
            return refuse(BEYOND);
        }
        int tick = now.firstBerth(ship, now.comes[ship]);
        if (tick >= now.comes[ship] + REACH) {
            return refuse(NONE);
        }
        return what == 0 ? tick : now.frontAt(ship, tick);
    }

    public int order(int what) {
        if (what < -1 || what >= MOST_SHIPS) {
            return refuse(BEYOND);
        }
        if (what >= now.ships) {
            return refuse(NONE);
        }
        harbour.find(now);
        return what == -1 ? harbour.leastSum : harbour.order[what];
    }

    public int waits(int ship, int what) {
        if (!isShip(ship) || what < 0 || what > 1) {
            return refuse(BEYOND);
        }
        harbour.find(now);
        return what == 0 ? harbour.waits[ship] : harbour.fronts[ship];
    }

    // ---- the bridge

    public int fast(int tick) {
        if (!isTick(tick)) {
            return refuse(BEYOND);
        }
        now.tides.at(tick);
        return now.tides.isBetween ? 0 : Math.min(REACH, now.tides.calmTill() - tick);
    }

    public int off(int tick, int n) {
        if (!isSpan(tick, n)) {
            return refuse(BEYOND);
        }
        int many = 0;
        for (int t = tick; t < tick + n; t++) {
            now.tides.at(t);
            if (now.tides.isBetween) {
                many++;
            }
        }
        return many;
    }

    // ---- the text

    public int feed(int bytes, int n) {
        if (n < 1 || n > 4) {
            return refuse(BEYOND);
        }
        if (tape.used + n > Tape.ROOM) {
            return refuse(FULL);
        }
        for (int i = n - 1; i >= 0; i--) {
            tape.add((byte) (bytes >> (8 * i)));
        }
        return tape.used;
    }

    public int wipe() {
        int was = tape.used;
        tape.used = 0;
        return was;
    }

    public int island() {
        // The text is told to a draft, so that a fault leaves what there is as it was.
        draft.become(now);
        int items = teller.tell(draft);
        tape.used = 0;
        if (items >= 0) {
            harbour.forget();
            now.become(draft);
        }
        return items;
    }

    // ---- sheets

    public int sheet(int s, int bits, int n) {
        if (!isSheet(s) || !Sheet.mayBe(bits)) {
            return refuse(BEYOND);
        }
        if (n < 0) {
            return refuse(SIZE);
        }
        if (n > Sheet.ROOM) {
            return refuse(BEYOND);
        }
        return sheets[s].lay(bits, n);
    }

    public long write(int s, int i, long v) {
        if (!isSheet(s)) {
            return refuse(BEYOND);
        }
        if (sheets[s].isMissing()) {
            return refuse(MISSING);
        }
        if (i < 0 || i >= sheets[s].many) {
            return refuse(BEYOND);
        }
        long was = sheets[s].numbers[i];
        sheets[s].put(i, v);
        return was;
    }

    public int copy(int s, int from, int t, int to, int n) {
        if (!isSheet(s) || !isSheet(t)) {
            return refuse(BEYOND);
        }
        if (sheets[s].isMissing() || sheets[t].isMissing()) {
            return refuse(MISSING);
        }
        if (sheets[s].bits != sheets[t].bits) {
            return refuse(KIND);
        }
        if (!sheets[s].has(from, n) || !sheets[t].has(to, n)) {
            return refuse(BEYOND);
        }
        System.arraycopy(sheets[s].numbers, from, sheets[t].numbers, to, n);
        return n;
    }

    public int lays(int s) {
        if (!isSheet(s)) {
            return refuse(BEYOND);
        }
        if (sheets[s].isMissing()) {
            return refuse(MISSING);
        }
        int came = 0;
        for (int i = 0; i < sheets[s].many && i < now.houses; i++) {
            long v = sheets[s].numbers[i];
            if (v >= 0 && v < SIDES) {
                now.fronts[i] = (int) v;
                came++;
            }
        }
        return came;
    }

    public int calendar(int s, int front, int tick, int g) {
        int refusal = calendarRefusal(s, front, tick, g);
        if (refusal != 0) {
            return refuse(refusal);
        }
        for (int i = 0; i < sheets[s].many; i++) {
            now.tides.at(tick + i * g);
            sheets[s].put(i, now.tides.sideOf(front));
        }
        return sheets[s].many;
    }

    public int read(int s, int front, int tick, int g) {
        int refusal = calendarRefusal(s, front, tick, g);
        if (refusal != 0) {
            return refuse(refusal);
        }
        for (int i = 0; i < sheets[s].many; i++) {
            now.tides.at(tick + i * g);
            if (sheets[s].numbers[i] != now.tides.sideOf(front)) {
                return 1 + i;
            }
        }
        return 0;
    }

    // ---- images

    public int image() {
        kept.become(now);
        hasImage = true;
        return 1;
    }

    public int undo() {
        if (!hasImage) {
            return refuse(NONE);
        }
        harbour.forget();
        now.become(kept);
        return now.houses;
    }

    public int tear() {
        int was = hasImage ? 1 : 0;
        hasImage = false;
        return was;
    }

    public int count(int what) {
        switch (what) {
            case 0:
                return now.houses;
            case 1:
                return now.ships;
            case 2:
                return now.force;
            case 3:
                return tape.used;
            case 4:
                return now.blowsFrom;
            default:
                return refuse(BEYOND);
        }
    }

    public int status(int which) {
        if (which < -1 || which >= FINDINGS) {
            return refuse(BEYOND);
        }
        return which == -1 ? allFound() : found[which];
    }

    // ---- what several calls share

    private int refuse(int finding) {
        int which = BEYOND - finding;
        if (which >= 0 && which < FINDINGS) {
            found[which]++;
        }
        return finding;
    }

    private int allFound() {
        int all = 0;
        for (int which = 0; which < FINDINGS; which++) {
            all += found[which];
        }
        return all;
    }

    /** Sides and fronts have the same four numbers. */
    private static boolean isSide(int side) {
        return side >= 0 && side < SIDES;
    }

    private static boolean isTick(int tick) {
        return tick >= 0 && tick <= LAST_TICK;
    }

    private static boolean isSpan(int tick, int n) {
        return isTick(tick) && n >= 1 && n <= REACH;
    }

    private static boolean isSheet(int s) {
        return s >= 0 && s < SHEETS;
    }

    private boolean isHouse(int house) {
        return house >= 0 && house < now.houses;
    }

    private boolean isShip(int ship) {
        return ship >= 0 && ship < now.ships;
    }

    private static int hourOf(int tick) {
        return tick % DAY / 4;
    }

    private boolean looksInHour(int front, int side, int first) {
        for (int t = first; t < first + 4; t++) {
            now.tides.at(t);
            if (now.tides.sideOf(front) == side) {
                return true;
            }
        }
        return false;
    }

    /** What two houses have more by exchanging fronts, or 0 if one of them has less. */
    private int moreByExchange(int a, int b) {
        int frontA = now.fronts[a];
        int frontB = now.fronts[b];
        int moreA = tally.sums[now.kinds[a] * SIDES + frontB] - tally.sums[now.kinds[a] * SIDES + frontA];
        int moreB = tally.sums[now.kinds[b] * SIDES + frontA] - tally.sums[now.kinds[b] * SIDES + frontB];
        return moreA < 0 || moreB < 0 ? 0 : moreA + moreB;
    }

    /** The finding with which a calendar is refused, or 0. */
    private int calendarRefusal(int s, int front, int tick, int g) {
        if (!isSheet(s)) {
            return BEYOND;
        }
        if (sheets[s].isMissing()) {
            return MISSING;
        }
        return isSide(front) && isTick(tick) && g >= 1 && g <= DAY ? 0 : BEYOND;
    }

    /** When the tides come, and what stands at one tick. */
    private static final class Tides {
        static final int FLOOD = 0;
        static final int PERIOD = 1;
        static final int LENGTH = 2;
        static final int LAG = 3;
        static final int LATE = 0;
        static final int FAILS = 1;
        static final int HALVES = 2;
        static final int SETS = 3;
        /** Tides from this one on stand in no set. */
        static final int LISTED = 30;
        static final int[] LEAST = {0, 16, 1, 0};
        static final int[] MOST = {400, 400, 7, 8};

        final int[] told = {20, 50, 3, 0};
        final int[] listed = new int[SETS];

        /** What stands at the tick that at() was told last. */
        private int ended;
        int quarters;
        boolean isBetween;

        static boolean mayBe(int what, int v) {
            return what >= 0 && what < LEAST.length && v >= LEAST[what] && v <= MOST[what];
        }

        void become(Tides other) {
            System.arraycopy(other.told, 0, told, 0, told.length);
            System.arraycopy(other.listed, 0, listed, 0, SETS);
        }

        boolean isIn(int set, int k) {
            return k >= 0 && k < LISTED && (listed[set] >> k & 1) != 0;
        }

        int begins(int k) {
            boolean late = k >= 0 && k < LISTED && (listed[LATE] >> k & 1) != 0;
            return told[FLOOD] + k * told[PERIOD] + (late ? told[LAG] : 0);
        }

        int ends(int k) {
            return begins(k) + told[LENGTH];
        }

        /**
         * A period is longer than lag and length together, so one tide at most
         * is neither wholly ahead of a tick nor wholly behind it.
         */
        void at(int tick) {
            ended = 0;
            if (tick >= told[FLOOD] && told[PERIOD] > 0) {
                int latest = (tick - told[FLOOD]) / told[PERIOD];
                ended = begins(latest) + told[LENGTH] <= tick ? latest + 1 : latest;
            }
            int right = ended;
            boolean half = false;
            while (right > 0 && right <= LISTED && !turnsWhole(right - 1)) {
                right--;
                half = half || !isIn(FAILS, right);
            }
            quarters = right - Integer.bitCount(listed[FAILS] & below(right));
            isBetween = half || (begins(ended) <= tick && !isIn(FAILS, ended));
        }

        private boolean turnsWhole(int k) {
            return k < 0 || k >= LISTED || ((listed[FAILS] | listed[HALVES]) >> k & 1) == 0;
        }

        private static int below(int k) {
            return k >= LISTED ? -1 : (1 << k) - 1;
        }

        int sideOf(int front) {
            return isBetween ? NOWHERE : (front + quarters) & 3;
        }

        int frontTo(int side) {
            return (side - quarters) & 3;
        }

        /** The tick at which the tides between at the tick of at() are all set right. */
        int rightAt() {
            int k = ended;
            while (k < LISTED && !turnsWhole(k)) {
                k++;
            }
            return begins(k) + told[LENGTH];
        }

        /** The first tick behind the calm tick of at() that isn't calm. */
        int calmTill() {
            int k = ended;
            while (k < LISTED && isIn(FAILS, k)) {
                k++;
            }
            return begins(k);
        }
    }

    /** All that an image keeps: tides, wind, houses, ships. */
    private static final class Isle {
        static final int HOUSE = 0;
        static final int MILL = 1;
        static final int SHED = 2;
        static final int INN = 3;
        static final int SAILS = 4;
        static final int DORM = 5;
        static final int KINDS = 6;
        static final int[] UNDER = {-1, HOUSE, HOUSE, HOUSE, MILL, INN};
        static final int MOST_FORCE = 9;
        static final int MOST_STAYS = 40;

        final Tides tides = new Tides();
        int blowsFrom = 0;
        int force = 3;
        int houses = 0;
        final int[] kinds = new int[MOST_HOUSES];
        final int[] fronts = new int[MOST_HOUSES];
        int ships = 0;
        final int[] courses = new int[MOST_SHIPS];
        final int[] comes = new int[MOST_SHIPS];
        final int[] stays = new int[MOST_SHIPS];
        final int[] quays = new int[MOST_SHIPS];

        void become(Isle other) {
            tides.become(other.tides);
            blowsFrom = other.blowsFrom;
            force = other.force;
            houses = other.houses;
            System.arraycopy(other.kinds, 0, kinds, 0, MOST_HOUSES);
            System.arraycopy(other.fronts, 0, fronts, 0, MOST_HOUSES);
            ships = other.ships;
            System.arraycopy(other.courses, 0, courses, 0, MOST_SHIPS);
            System.arraycopy(other.comes, 0, comes, 0, MOST_SHIPS);
            System.arraycopy(other.stays, 0, stays, 0, MOST_SHIPS);
            System.arraycopy(other.quays, 0, quays, 0, MOST_SHIPS);
        }

        static boolean isKind(int kind) {
            return kind >= 0 && kind < KINDS;
        }

        static boolean isUnder(int kind, int upper) {
            int k = kind;
            for (int step = 0; step < KINDS && isKind(k); step++) {
                if (k == upper) {
                    return true;
                }
                k = UNDER[k];
            }
            return false;
        }

        int addHouse(int kind, int front) {
            if (houses >= MOST_HOUSES) {
                return FULL;
            }
            kinds[houses] = kind;
            fronts[houses] = front;
            return houses++;
        }

        int addShip(int course, int tick, int many, int quayFront) {
            if (ships >= MOST_SHIPS) {
                return FULL;
            }
            courses[ships] = course;
            comes[ships] = tick;
            stays[ships] = many;
            quays[ships] = quayFront;
            return ships++;
        }

        private static int sun(int side, int hour) {
            switch (side) {
                case 1:
                    return hour >= 6 && hour <= 11 ? 1 : 0;
                case 2:
                    return hour >= 9 && hour <= 15 ? 1 : 0;
                case 3:
                    return hour >= 12 && hour <= 18 ? 1 : 0;
                default:
                    return 0;
            }
        }

        private static int innGain(int side, int hour) {
            int lit = sun(side, hour);
            return lit != 0 && hour >= 12 ? lit + 1 : lit;
        }

        private int millGain(int side) {
            return side == blowsFrom ? 2 : 0;
        }

        int gainOf(int kind, int side, int hour) {
            switch (kind) {
                case HOUSE:
                    return sun(side, hour);
                case MILL:
                    return millGain(side);
                case SHED:
                    return 1 - sun(side, hour);
                case INN:
                    return innGain(side, hour);
                case SAILS:
                    return force * millGain(side);
                case DORM:
                    return hour < 9 ? 3 * innGain(side, hour) : 0;
                default:
                    return 0;
            }
        }

        /** One front alone looks to a side at a time, so no lesser one is to be sought. */
        int frontAt(int ship, int tick) {
            tides.at(tick);
            return tides.frontTo(courses[ship]);
        }

        /**
         * The first tick from one on at which a ship can lie at its quay, or the
         * tick behind the last that counts. As long as it is calm nothing turns,
         * so of each calm only its first tick is to be asked.
         */
        int firstBerth(int ship, int from) {
            int limit = comes[ship] + REACH;
            int tick = from;
            for (int calm = 0; calm < REACH && tick < limit; calm++) {
                tides.at(tick);
                if (tides.isBetween) {
                    tick = tides.rightAt();
                    tides.at(tick);
                }
                int front = tides.frontTo(courses[ship]);
                int till = tides.calmTill();
                boolean fits = quays[ship] == ANY || quays[ship] == front;
                if (fits && till - tick >= stays[ship]) {
                    return Math.min(tick, limit);
                }
                tick = till;
            }
            return limit;
        }
    }

    /** How many ticks of a span had which hour while the island stood how. */
    private static final class Tally {
        /** Row 0 is nowhere, row 1 and more the side of front 0. */
        final int[] seen = new int[(1 + SIDES) * HOURS];
        /** By kind and front. */
        final int[] sums = new int[Isle.KINDS * SIDES];

        void watch(Tides tides, int tick, int n) {
            Arrays.fill(seen, 0);
            for (int t = tick; t < tick + n; t++) {
                tides.at(t);
                seen[(1 + tides.sideOf(0)) * HOURS + hourOf(t)]++;
            }
        }

        int sumOf(Isle isle, int kind, int front) {
            int sum = 0;
            for (int i = 0; i < seen.length; i++) {
                if (seen[i] != 0) {
                    int row = i / HOURS;
                    int side = row == 0 ? NOWHERE : (row - 1 + front) & 3;
                    sum += seen[i] * isle.gainOf(kind, side, i % HOURS);
                }
            }
            return sum;
        }

        void reckonAll(Isle isle) {
            for (int i = 0; i < sums.length; i++) {
                sums[i] = sumOf(isle, i / SIDES, i % SIDES);
            }
        }
    }

    /** The search for the best order of all ships. */
    private static final class Harbour {
        private boolean known = false;
        int leastSum = 0;
        final int[] order = new int[MOST_SHIPS];
        final int[] waits = new int[MOST_SHIPS];
        final int[] fronts = new int[MOST_SHIPS];

        private final int[] first = new int[MOST_SHIPS];
        private final int[] tried = new int[MOST_SHIPS];
        private final int[] tryWaits = new int[MOST_SHIPS];
        private final int[] tryFronts = new int[MOST_SHIPS];
        private int inside = 0;

        void forget() {
            known = false;
        }

        void find(Isle isle) {
            if (known) {
                return;
            }
            int least = 0;
            for (int ship = 0; ship < isle.ships; ship++) {
                first[ship] = isle.firstBerth(ship, isle.comes[ship]);
                least += first[ship] - isle.comes[ship];
            }
            leastSum = MOST_SHIPS * REACH + 1;
            inside = 0;
            search(this, isle, 0, 0, least);
            known = true;
        }

        /**
         * Orders are tried from the first by the ships' numbers on, and one
         * counts only if it has less than all ahead of it. No ship waits less
         * than if it were alone, so what those outside wait at least is known.
         */
        private static void search(Harbour h, Isle isle, int depth, int sum, int outside) {
            if (sum + outside >= h.leastSum) {
                return;
            }
            if (depth >= isle.ships || depth >= MOST_SHIPS) {
                h.keep(isle.ships, sum);
                return;
            }
            for (int ship = 0; ship < isle.ships; ship++) {
                if ((h.inside >> ship & 1) == 0) {
                    h.place(isle, ship, depth);
                    h.tried[depth] = ship;
                    h.inside |= 1 << ship;
                    int alone = h.first[ship] - isle.comes[ship];
                    search(h, isle, depth + 1, sum + h.tryWaits[ship], outside - alone);
                    h.inside &= ~(1 << ship);
                }
            }
        }

        private void keep(int ships, int sum) {
            leastSum = sum;
            System.arraycopy(tried, 0, order, 0, ships);
            System.arraycopy(tryWaits, 0, waits, 0, ships);
            System.arraycopy(tryFronts, 0, fronts, 0, ships);
        }

        /** A ship once passed has gone for good, so each one ahead puts off once at most. */
        private void place(Isle isle, int ship, int ahead) {
            int limit = isle.comes[ship] + REACH;
            int tick = first[ship];
            for (int put = 0; put <= ahead && tick < limit; put++) {
                int front = isle.frontAt(ship, tick);
                int gone = freeFrom(isle, front, tick, isle.stays[ship], ahead);
                if (gone == tick) {
                    tryWaits[ship] = tick - isle.comes[ship];
                    tryFronts[ship] = front;
                    return;
                }
                tick = isle.firstBerth(ship, gone);
            }
            tryWaits[ship] = REACH;
            tryFronts[ship] = NOWHERE;
        }

        /** When those ahead that lie in the way have gone, or the tick itself. */
        private int freeFrom(Isle isle, int front, int tick, int many, int ahead) {
            int free = tick;
            for (int i = 0; i < ahead; i++) {
                int other = tried[i];
                int comes = isle.comes[other] + tryWaits[other];
                int goes = comes + isle.stays[other];
                if (tryFronts[other] == front && comes < tick + many && goes > tick) {
                    free = Math.max(free, goes);
                }
            }
            return free;
        }
    }

    /** The bytes of the text, cut into tokens. */
    private static final class Tape {
        static final int ROOM = 120;
        static final int END = 0;
        static final int WORD = 1;
        static final int NUMBER = 2;
        static final int SIGN = 3;
        private static final int BLANK = 4;
        private static final int OTHER = 5;
        /** Stands for every number above those that may be. */
        private static final int TOO_MUCH = 10000;

        private final byte[] bytes = new byte[ROOM];
        int used = 0;

        int type = END;
        int from = 0;
        private int till = 0;

        void add(byte b) {
            if (used < ROOM) {
                bytes[used] = b;
                used++;
            }
        }

        void rewind() {
            till = 0;
            step();
        }

        /** Goes on to the next token; at the end its place is how many bytes there are. */
        void step() {
            from = till;
            while (from < used && typeAt(from) == BLANK) {
                from++;
            }
            type = typeAt(from);
            till = type == END ? from : from + 1;
            while (till < used && (type == WORD || type == NUMBER) && typeAt(till) == type) {
                till++;
            }
        }

        private int typeAt(int place) {
            if (place < 0 || place >= used || place >= ROOM) {
                return END;
            }
            byte b = bytes[place];
            if (b >= 'a' && b <= 'z') {
                return WORD;
            }
            if (b >= '0' && b <= '9') {
                return NUMBER;
            }
            if (b == ';') {
                return SIGN;
            }
            return b == ' ' ? BLANK : OTHER;
        }

        /** What the digits of a number tell. */
        int value() {
            int told = 0;
            for (int i = from; i < till; i++) {
                told = Math.min(TOO_MUCH, told * 10 + bytes[i] - '0');
            }
            return told;
        }

        boolean isWord(String name) {
            if (type != WORD || till - from != name.length()) {
                return false;
            }
            for (int i = 0; i < name.length(); i++) {
                if (bytes[from + i] != name.charAt(i)) {
                    return false;
                }
            }
            return true;
        }
    }

    /** Tells the items of a text to an island; where it stops, the token can't stand there. */
    private static final class Teller {
        final Tape tape = new Tape();
        private int taken = 0;

        /** How many items, or -1 less the place of the fault. */
        int tell(Isle isle) {
            tape.rewind();
            for (int items = 1; items <= Tape.ROOM; items++) {
                if (!item(isle)) {
                    break;
                }
                if (tape.type == Tape.END) {
                    return items;
                }
                if (tape.type != Tape.SIGN) {
                    break;
                }
                tape.step();
            }
            return -1 - tape.from;
        }

        private boolean item(Isle isle) {
            int kind = namedKind();
            if (kind >= 0) {
                return houseItem(isle, kind);
            }
            if (tape.isWord("ship")) {
                return shipItem(isle);
            }
            if (word("flood")) {
                return floodItem(isle.tides);
            }
            if (word("late")) {
                return setItem(isle.tides, Tides.LATE);
            }
            if (word("fails")) {
                return setItem(isle.tides, Tides.FAILS);
            }
            if (word("halves")) {
                return setItem(isle.tides, Tides.HALVES);
            }
            return word("wind") && windItem(isle);
        }

        private int namedKind() {
            for (int kind = 0; kind < Isle.KINDS; kind++) {
                if (tape.isWord(nameOf(kind))) {
                    return kind;
                }
            }
            return -1;
        }

        private static String nameOf(int kind) {
            switch (kind) {
                case Isle.HOUSE:
                    return "house";
                case Isle.MILL:
                    return "mill";
                case Isle.SHED:
                    return "shed";
                case Isle.INN:
                    return "inn";
                case Isle.SAILS:
                    return "sails";
                default:
                    return "dorm";
            }
        }

        private boolean word(String name) {
            if (!tape.isWord(name)) {
                return false;
            }
            tape.step();
            return true;
        }

        private boolean number(int least, int most) {
            if (tape.type != Tape.NUMBER) {
                return false;
            }
            taken = tape.value();
            if (taken < least || taken > most) {
                return false;
            }
            tape.step();
            return true;
        }

        private boolean floodItem(Tides tides) {
            if (!number(Tides.LEAST[Tides.FLOOD], Tides.MOST[Tides.FLOOD])) {
                return false;
            }
            tides.told[Tides.FLOOD] = taken;
            if (word("period")) {
                if (!number(Tides.LEAST[Tides.PERIOD], Tides.MOST[Tides.PERIOD])) {
                    return false;
                }
                tides.told[Tides.PERIOD] = taken;
            }
            if (word("length")) {
                if (!number(Tides.LEAST[Tides.LENGTH], Tides.MOST[Tides.LENGTH])) {
                    return false;
                }
                tides.told[Tides.LENGTH] = taken;
            }
            return true;
        }

        private boolean setItem(Tides tides, int which) {
            int set = 0;
            int least = 0;
            do {
                if (!number(least, Tides.LISTED - 1)) {
                    return false;
                }
                set |= 1 << taken;
                least = taken + 1;
            } while (tape.type == Tape.NUMBER && least <= Tides.LISTED);
            tides.listed[which] = set;
            return true;
        }

        private boolean houseItem(Isle isle, int kind) {
            if (isle.houses >= MOST_HOUSES) {
                return false;
            }
            tape.step();
            if (!number(0, SIDES - 1)) {
                return false;
            }
            isle.addHouse(kind, taken);
            return true;
        }

        private boolean shipItem(Isle isle) {
            if (isle.ships >= MOST_SHIPS) {
                return false;
            }
            tape.step();
            if (!number(0, SIDES - 1)) {
                return false;
            }
            int course = taken;
            if (!word("comes") || !number(0, LAST_TICK)) {
                return false;
            }
            int tick = taken;
            if (!word("stays") || !number(1, Isle.MOST_STAYS)) {
                return false;
            }
            int many = taken;
            int quayFront = ANY;
            if (word("quay")) {
                if (!number(0, SIDES - 1)) {
                    return false;
                }
                quayFront = taken;
            }
            isle.addShip(course, tick, many, quayFront);
            return true;
        }

        private boolean windItem(Isle isle) {
            if (!number(0, SIDES - 1)) {
                return false;
            }
            isle.blowsFrom = taken;
            if (!number(0, Isle.MOST_FORCE)) {
                return false;
            }
            isle.force = taken;
            return true;
        }
    }

    /** A row of numbers; one of no bits is missing. */
    private static final class Sheet {
        static final int ROOM = 40;

        int bits = 0;
        int many = 0;
        final long[] numbers = new long[ROOM];

        static boolean mayBe(int bits) {
            return bits == 0 || bits == 8 || bits == 16 || bits == 64;
        }

        boolean isMissing() {
            return bits == 0;
        }

        int lay(int newBits, int n) {
            Arrays.fill(numbers, 0L);
            bits = newBits;
            many = newBits == 0 ? 0 : n;
            return many;
        }

        /** Told so that no sum of two arguments can wrap around. */
        boolean has(int from, int n) {
            return from >= 0 && n >= 0 && from <= many && n <= many - from;
        }

        void put(int i, long v) {
            if (bits == 8) {
                numbers[i] = (byte) v;
            } else if (bits == 16) {
                numbers[i] = (short) v;
            } else {
                numbers[i] = v;
            }
        }
    }
}
