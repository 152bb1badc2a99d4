import java.util.LinkedHashSet;
import java.util.Set;
import java.util.function.Consumer;

/**
 * Each argument of each call: the last values that may be, the first that may not, and numbers with
 * which sums, products or narrower types wrap around. Then the findings in the order in which they
 * are asked. Every refused call may change nothing but what status() tells.
 */
public final class RangesTest {
    private static final int[] TICK = {0, 9999};
    private static final int[] SIDE = {0, 3};
    private static final int[] SPAN = {1, 960};
    /** Any number may be. */
    private static final int[] FREE = null;

    /** A call with the arguments that it is told. */
    private interface Act {
        long on(TideQuarter x, int[] a);
    }

    private static String told(String name, int[] a) {
        StringBuilder all = new StringBuilder(name + "(");
        for (int i = 0; i < a.length; i++) {
            all.append(i == 0 ? "" : ", ").append(a[i]);
        }
        return all + ")";
    }

    private static int[] with(int[] a, int place, int v) {
        int[] b = a.clone();
        b[place] = v;
        return b;
    }

    private static boolean isIn(int[] range, int v) {
        return range == FREE || v >= range[0] && v <= range[1];
    }

    private static Set<Integer> outside(int[] range) {
        Set<Integer> all = new LinkedHashSet<>();
        int[] near = {range[0] - 1, range[1] + 1, range[0] - 2, range[1] + 2};
        int[] far = {256, 65536, Integer.MIN_VALUE};
        for (int v : near) {
            all.add(v);
        }
        for (int d : far) {
            all.add(range[0] + d);
            all.add(range[1] + d);
            all.add(range[0] - d);
        }
        for (int v : Checks.WIDE) {
            all.add(v);
        }
        all.removeIf(v -> isIn(range, v));
        return all;
    }

    private static void refused(Consumer<TideQuarter> start, String name, Act act, int[] a, int finding) {
        Checks.refused(told(name, a), start, x -> act.on(x, a), finding);
    }

    private static void allowed(Consumer<TideQuarter> start, String name, Act act, int[] a) {
        TideQuarter x = new TideQuarter();
        start.accept(x);
        int was = x.status(0);
        act.on(x, a);
        Checks.due("BEYONDs behind " + told(name, a), x.status(0), was);
    }

    /** The arguments told may be, and each one in its range; BEYOND answers all others. */
    private static void row(Consumer<TideQuarter> start, String name, Act act, int[] base, int[]... ranges) {
        for (int p = 0; p < ranges.length; p++) {
            if (ranges[p] != FREE) {
                allowed(start, name, act, with(base, p, ranges[p][0]));
                allowed(start, name, act, with(base, p, ranges[p][1]));
                for (int v : outside(ranges[p])) {
                    refused(start, name, act, with(base, p, v), Checks.BEYOND);
                }
            } else {
                for (int v : Checks.WIDE) {
                    allowed(start, name, act, with(base, p, v));
                }
            }
        }
        corners(start, name, act, base, ranges);
    }

    /** Several arguments at once that lie far off, on both sides. */
    private static void corners(Consumer<TideQuarter> start, String name, Act act, int[] base, int[][] ranges) {
        int[] far = {0, -1, Integer.MIN_VALUE, Integer.MAX_VALUE};
        int many = 1 << 2 * base.length;
        for (int c = 0; c < many; c++) {
            int[] a = base.clone();
            boolean beyond = false;
            for (int p = 0; p < a.length; p++) {
                int which = c >> 2 * p & 3;
                a[p] = which == 0 ? base[p] : far[which];
                beyond |= !isIn(ranges[p], a[p]);
            }
            if (beyond) {
                refused(start, name, act, a, Checks.BEYOND);
            }
        }
    }

    private static int[] range(int least, int most) {
        return new int[] {least, most};
    }

    private static int[] of(int... a) {
        return a;
    }

    private static void row(String name, Act act, int[] base, int[]... ranges) {
        row(Checks::mixed, name, act, base, ranges);
    }

    private static void tides() {
        Checks.says(0, "FLOOD (0 to 400; 20 at first), PERIOD (16 to 400; 50 at first), LENGTH (1 to 7; 3 at first), LAG (0 to 8; 0 at first)");
        row("tides 0", (x, a) -> x.tides(0, a[0]), of(5), range(0, 400));
        row("tides 1", (x, a) -> x.tides(1, a[0]), of(20), range(16, 400));
        row("tides 2", (x, a) -> x.tides(2, a[0]), of(5), range(1, 7));
        row("tides 3", (x, a) -> x.tides(3, a[0]), of(5), range(0, 8));
        Checks.says(2, "FLOOD (what 0), PERIOD (1), LENGTH (2), LAG (3) becomes v: what it was. BEYOND.");
        for (int v : of(0, 1, 5, 16, 400)) {
            for (int what : outside(range(0, 3))) {
                refused(Checks::mixed, "tides", (x, a) -> x.tides(a[0], a[1]), of(what, v), Checks.BEYOND);
            }
        }
        Checks.says(3, "BEYOND (a bit above 29).");
        Act sets = (x, a) -> x.sets(a[0], a[1]);
        for (int what = 0; what < 3; what++) {
            int which = what;
            row("sets " + what, (x, a) -> x.sets(which, a[0]), of(6), range(0, Checks.ALL));
            for (int low : of(0, 1, Checks.ALL)) {
                refused(Checks::mixed, "sets", sets, of(what, 1 << 30 | low), Checks.BEYOND);
                refused(Checks::mixed, "sets", sets, of(what, 1 << 31 | low), Checks.BEYOND);
                refused(Checks::mixed, "sets", sets, of(what, 3 << 30 | low), Checks.BEYOND);
            }
        }
        for (int what : outside(range(0, 2))) {
            refused(Checks::mixed, "sets", sets, of(what, 6), Checks.BEYOND);
            refused(Checks::mixed, "sets", sets, of(what, 0), Checks.BEYOND);
        }
        Checks.says(4, "WIND: a SIDE and a FORCE: what FORCE was. BEYOND.");
        row("wind", (x, a) -> x.wind(a[0], a[1]), of(2, 3), SIDE, range(0, 9));
        Checks.says(5, "At which TICK TIDE k (0 to 199) BEGINS (what 0), ENDS (1: as if it were in no SET but LATE). BEYOND.");
        row("tide", (x, a) -> x.tide(a[0], a[1]), of(3, 1), range(0, 199), range(0, 1));
        Checks.says(6, "TURNED at a TICK. BEYOND.");
        row("turned", (x, a) -> x.turned(a[0]), of(50), TICK);
        Checks.says(7, "Whether a TICK is BETWEEN: 1, 0. BEYOND.");
        row("between", (x, a) -> x.between(a[0]), of(50), TICK);
        Checks.says(8, "The SIDE to which a FRONT looks at a TICK (-1: nowhere). BEYOND.");
        row("looks", (x, a) -> x.looks(a[0], a[1]), of(2, 50), SIDE, TICK);
        Checks.says(9, "The FRONT that looks to a SIDE at a TICK. BEYOND.");
        row("front", (x, a) -> x.front(a[0], a[1]), of(2, 12), SIDE, TICK);
        Checks.says(10, "The first TICK from one on (within 960, likewise) at which a FRONT looks to a SIDE. BEYOND.");
        row("when", (x, a) -> x.when(a[0], a[1], a[2]), of(2, 1, 12), SIDE, SIDE, TICK);
    }

    private static void houses() {
        int[] mine = range(0, 2);
        int[] kinds = range(0, 5);
        Checks.says(11, "BEYOND: kind, front.");
        row("house", (x, a) -> x.house(a[0], a[1]), of(3, 2), kinds, SIDE);
        Checks.says(12, "Of a HOUSE: what 0 KIND, 1 FRONT. BEYOND.");
        row("houseOf", (x, a) -> x.houseOf(a[0], a[1]), of(1, 1), mine, range(0, 1));
        Checks.says(13, "FRONT of a HOUSE becomes v: what it was. BEYOND.");
        row("turn", (x, a) -> x.turn(a[0], a[1]), of(1, 1), mine, SIDE);
        Checks.says(14, "BEYOND: no such HOUSE, kind.");
        row("as", (x, a) -> x.as(a[0], a[1]), of(1, 0), mine, kinds);
        Checks.says(15, "GAIN of a HOUSE at a TICK. BEYOND.");
        row("gain", (x, a) -> x.gain(a[0], a[1]), of(1, 50), mine, TICK);
        Checks.says(16, "SUM of a HOUSE for n TICKS (1 to 960) from one on. BEYOND.");
        row("sum", (x, a) -> x.sum(a[0], a[1], a[2]), of(1, 50, 30), mine, TICK, SPAN);
        Checks.says(17, "The FRONT with which SUM of a HOUSE is most; of several the least. BEYOND.");
        row("best", (x, a) -> x.best(a[0], a[1], a[2]), of(1, 50, 30), mine, TICK, SPAN);
        Checks.says(18, "The HOUSE that has most SUM; of several the least. BEYOND.");
        row("sunniest", (x, a) -> x.sunniest(a[0], a[1]), of(50, 30), TICK, SPAN);
        Checks.says(19, "BEYOND.");
        row("days", (x, a) -> x.days(a[0], a[1], a[2], a[3]), of(1, 2, 9, 50), mine, SIDE, range(0, 23), TICK);
        Checks.says(20, "neither of them less than now; of several the least. BEYOND.");
        row("exchange", (x, a) -> x.exchange(a[0], a[1]), of(50, 30), TICK, SPAN);
    }

    private static void ships() {
        int[] mine = range(0, 2);
        Checks.says(21, "BEYOND: course, comes, stays.");
        row("ship", (x, a) -> x.ship(a[0], a[1], a[2]), of(1, 50, 30), SIDE, TICK, range(1, 40));
        Checks.says(22, "Of a SHIP: what 0 COURSE, 1 COMES, 2 STAYS, 3 QUAY. BEYOND.");
        row("shipOf", (x, a) -> x.shipOf(a[0], a[1]), of(1, 1), mine, range(0, 3));
        Checks.says(23, "QUAY of a SHIP becomes v (-1 to 3): what it was. BEYOND.");
        row("quay", (x, a) -> x.quay(a[0], a[1]), of(1, 1), mine, range(-1, 3));
        Checks.says(25, "Whether a SHIP can LIE from a TICK on, at a FRONT: 1, 0. BEYOND.");
        row("lies", (x, a) -> x.lies(a[0], a[1], a[2]), of(1, 2, 50), mine, SIDE, TICK);
        Checks.says(26, "ENTRY of a SHIP: what 0 the TICK, 1 the FRONT. BEYOND.");
        row("entry", (x, a) -> x.entry(a[0], a[1]), of(1, 1), mine, range(0, 1));
        Checks.says(27, "what -1 the sum of WAITS, i (0 to 5) the i-th SHIP. BEYOND.");
        row("order", (x, a) -> x.order(a[0]), of(1), range(-1, 5));
        Checks.says(28, "of a SHIP what 0 its WAIT, 1 the FRONT (-1: nowhere). BEYOND.");
        row("waits", (x, a) -> x.waits(a[0], a[1]), of(1, 1), mine, range(0, 1));
        Checks.says(29, "(960 at most; 0: it is BETWEEN). BEYOND.");
        row("fast", (x, a) -> x.fast(a[0]), of(50), TICK);
        Checks.says(30, "How many of n TICKS (1 to 960) from one on are BETWEEN. BEYOND.");
        row("off", (x, a) -> x.off(a[0], a[1]), of(50, 30), TICK, SPAN);
    }

    /** The last house and ship that may be, and the object that has none. */
    private static void fullAndEmpty() {
        Checks.says(0, "HOUSES 0, 1, .. (at most 8)");
        int[] eight = range(0, 7);
        row(Checks::full, "houseOf", (x, a) -> x.houseOf(a[0], a[1]), of(7, 1), eight, range(0, 1));
        row(Checks::full, "turn", (x, a) -> x.turn(a[0], a[1]), of(7, 1), eight, SIDE);
        row(Checks::full, "as", (x, a) -> x.as(a[0], a[1]), of(7, 0), eight, range(0, 5));
        row(Checks::full, "gain", (x, a) -> x.gain(a[0], a[1]), of(7, 1), eight, TICK);
        row(Checks::full, "sum", (x, a) -> x.sum(a[0], 50, a[1]), of(7, 1), eight, SPAN);
        row(Checks::full, "best", (x, a) -> x.best(a[0], 50, a[1]), of(7, 1), eight, SPAN);
        row(Checks::full, "days", (x, a) -> x.days(a[0], 0, 0, a[1]), of(7, 1), eight, TICK);
        Checks.says(0, "SHIPS 0, 1, .. (at most 6)");
        int[] six = range(0, 5);
        row(Checks::full, "shipOf", (x, a) -> x.shipOf(a[0], a[1]), of(5, 1), six, range(0, 3));
        row(Checks::full, "quay", (x, a) -> x.quay(a[0], a[1]), of(5, 1), six, range(-1, 3));
        row(Checks::full, "lies", (x, a) -> x.lies(a[0], 2, a[1]), of(5, 1), six, TICK);
        row(Checks::full, "entry", (x, a) -> x.entry(a[0], a[1]), of(5, 1), six, range(0, 1));
        row(Checks::full, "waits", (x, a) -> x.waits(a[0], a[1]), of(5, 1), six, range(0, 1));
        Checks.says(1, "No HOUSES, SHIPS; THE TAPE is empty, no image is kept.");
        for (int none : of(0, 1, 7, -1)) {
            refused(Checks::bare, "houseOf", (x, a) -> x.houseOf(a[0], 0), of(none), Checks.BEYOND);
            refused(Checks::bare, "turn", (x, a) -> x.turn(a[0], 0), of(none), Checks.BEYOND);
            refused(Checks::bare, "as", (x, a) -> x.as(a[0], 0), of(none), Checks.BEYOND);
            refused(Checks::bare, "gain", (x, a) -> x.gain(a[0], 0), of(none), Checks.BEYOND);
            refused(Checks::bare, "sum", (x, a) -> x.sum(a[0], 0, 1), of(none), Checks.BEYOND);
            refused(Checks::bare, "best", (x, a) -> x.best(a[0], 0, 1), of(none), Checks.BEYOND);
            refused(Checks::bare, "days", (x, a) -> x.days(a[0], 0, 0, 0), of(none), Checks.BEYOND);
            refused(Checks::bare, "shipOf", (x, a) -> x.shipOf(a[0], 0), of(none), Checks.BEYOND);
            refused(Checks::bare, "quay", (x, a) -> x.quay(a[0], 0), of(none), Checks.BEYOND);
            refused(Checks::bare, "lies", (x, a) -> x.lies(a[0], 0, 0), of(none), Checks.BEYOND);
            refused(Checks::bare, "entry", (x, a) -> x.entry(a[0], 0), of(none), Checks.BEYOND);
            refused(Checks::bare, "waits", (x, a) -> x.waits(a[0], 0), of(none), Checks.BEYOND);
        }
        refused(Checks::bare, "undo", (x, a) -> x.undo(), of(), Checks.NONE);
    }

    private static void textAndSheets() {
        int[] sheet = range(0, 3);
        Checks.says(31, "(n 1 to 4): how many it has. BEYOND: n.");
        row("feed", (x, a) -> x.feed(a[0], a[1]), of('a', 2), FREE, range(1, 4));
        Checks.says(34, "A sheet has n numbers, all 0, of 8, 16 or 64 bits; bits 0: it is MISSING: n (0 if it is MISSING). BEYOND: no such sheet, other bits.");
        row("sheet", (x, a) -> x.sheet(a[0], 8, 3), of(2), sheet);
        row("sheet", (x, a) -> x.sheet(a[0], 0, 3), of(2), sheet);
        for (int bits = -66; bits <= 130; bits++) {
            if (bits != 0 && bits != 8 && bits != 16 && bits != 64) {
                int b = bits;
                refused(Checks::mixed, "sheet", (x, a) -> x.sheet(1, b, a[0]), of(3), Checks.BEYOND);
            }
        }
        for (int bits : Checks.WIDE) {
            refused(Checks::mixed, "sheet", (x, a) -> x.sheet(1, a[0], 3), of(bits), Checks.BEYOND);
        }
        Checks.says(34, "SIZE: n is below 0 (also with bits 0). BEYOND: n is above 40 (also with bits 0).");
        for (int bits : of(0, 8, 16, 64)) {
            for (int v : outside(range(0, 40))) {
                refused(Checks::mixed, "sheet", (x, a) -> x.sheet(a[0], a[1], a[2]), of(1, bits, v), v < 0 ? Checks.SIZE : Checks.BEYOND);
            }
        }
        Checks.says(35, "BEYOND: no such sheet. MISSING. BEYOND: no such number.");
        row("write to 0", (x, a) -> x.write(0, a[0], 7), of(0), range(0, 2));
        row("write to 2", (x, a) -> x.write(2, a[0], 7), of(0), range(0, 3));
        row(Checks::full, "write", (x, a) -> x.write(a[0], a[1], a[2]), of(3, 39, -1), sheet, range(0, 39), FREE);
        Checks.says(36, "BEYOND: no such sheet (either). MISSING: one is. KIND: they are not of as many bits. BEYOND: one has not so many, or from, to or n is below 0.");
        for (int s : outside(range(0, 3))) {
            refused(Checks::full, "copy", (x, a) -> x.copy(a[0], 0, 3, 0, 1), of(s), Checks.BEYOND);
            refused(Checks::full, "copy", (x, a) -> x.copy(3, 0, a[0], 0, 1), of(s), Checks.BEYOND);
        }
        row(Checks::full, "copy all", (x, a) -> x.copy(2, 0, 3, 0, a[0]), of(1), range(0, 40));
        row(Checks::full, "copy one", (x, a) -> x.copy(2, a[0], 3, a[1], a[2]), of(39, 39, 1), range(0, 39), range(0, 39), range(0, 1));
        row(Checks::full, "copy in", (x, a) -> x.copy(2, a[0], 2, a[1], a[2]), of(20, 20, 20), range(0, 20), range(0, 20), range(0, 20));
        row(Checks::full, "copy none", (x, a) -> x.copy(2, a[0], 3, a[1], 0), of(40, 40), range(0, 40), range(0, 40));
        Checks.says(37, "BEYOND: no such sheet. MISSING.");
        row(Checks::full, "lays", (x, a) -> x.lays(a[0]), of(3), sheet);
        Checks.says(38, "BEYOND: no such sheet. MISSING. BEYOND: front, tick, g.");
        int[] g = range(1, 96);
        row("calendar", (x, a) -> x.calendar(0, a[0], a[1], a[2]), of(2, 50, 10), SIDE, TICK, g);
        row(Checks::full, "calendar", (x, a) -> x.calendar(a[0], 0, a[1], a[2]), of(3, 50, 10), sheet, TICK, g);
        Checks.says(39, "Refused as calendar().");
        row("read", (x, a) -> x.read(0, a[0], a[1], a[2]), of(2, 50, 10), SIDE, TICK, g);
        row(Checks::full, "read", (x, a) -> x.read(a[0], 0, a[1], a[2]), of(3, 50, 10), sheet, TICK, g);
    }

    private static void others() {
        Checks.says(43, "0 HOUSES, 1 SHIPS, 2 FORCE, 3 bytes of THE TAPE, 4 the SIDE of WIND. BEYOND: another what.");
        row("count", (x, a) -> x.count(a[0]), of(2), range(0, 4));
        Checks.says(44, "which -1: all, 0 to 6: BEYOND to SIZE. BEYOND (counted from then on): another one.");
        row("status", (x, a) -> x.status(a[0]), of(2), range(-1, 6));
    }

    /** Of several findings that are due, the one that is asked first. */
    private static void findingsInOrder() {
        Consumer<TideQuarter> full = Checks::full;
        Consumer<TideQuarter> mixed = Checks::mixed;
        Consumer<TideQuarter> bare = Checks::bare;
        Consumer<TideQuarter> still = x -> x.sets(1, Checks.ALL);
        Checks.says(0, "Each act tells its findings in the order in which they are asked; one that answers a finding changes nothing but status().");
        Act house = (x, a) -> x.house(a[0], a[1]);
        refused(full, "house", house, of(0, 0), Checks.FULL);
        refused(full, "house", house, of(5, 3), Checks.FULL);
        refused(full, "house", house, of(6, 0), Checks.BEYOND);
        refused(full, "house", house, of(0, 4), Checks.BEYOND);
        refused(full, "house", house, of(-1, -1), Checks.BEYOND);
        Act ship = (x, a) -> x.ship(a[0], a[1], a[2]);
        refused(full, "ship", ship, of(0, 0, 1), Checks.FULL);
        refused(full, "ship", ship, of(3, 9999, 40), Checks.FULL);
        refused(full, "ship", ship, of(4, 0, 1), Checks.BEYOND);
        refused(full, "ship", ship, of(0, 10000, 1), Checks.BEYOND);
        refused(full, "ship", ship, of(0, -1, 1), Checks.BEYOND);
        refused(full, "ship", ship, of(0, 0, 0), Checks.BEYOND);
        refused(full, "ship", ship, of(0, 0, 41), Checks.BEYOND);
        Act feed = (x, a) -> x.feed(a[0], a[1]);
        refused(full, "feed", feed, of(0, 1), Checks.FULL);
        refused(full, "feed", feed, of(0, 4), Checks.FULL);
        refused(full, "feed", feed, of(0, 0), Checks.BEYOND);
        refused(full, "feed", feed, of(0, 5), Checks.BEYOND);
        refused(full, "feed", feed, of(0, Integer.MAX_VALUE), Checks.BEYOND);
        Act as = (x, a) -> x.as(a[0], a[1]);
        refused(mixed, "as", as, of(0, 4), Checks.KIND);
        refused(mixed, "as", as, of(3, 4), Checks.BEYOND);
        refused(mixed, "as", as, of(0, 6), Checks.BEYOND);
        Act front = (x, a) -> x.front(a[0], a[1]);
        refused(mixed, "front", front, of(3, 9), Checks.NONE);
        refused(mixed, "front", front, of(4, 9), Checks.BEYOND);
        refused(mixed, "front", front, of(-1, 9), Checks.BEYOND);
        Act when = (x, a) -> x.when(a[0], a[1], a[2]);
        refused(still, "when", when, of(0, 1, 0), Checks.NONE);
        refused(still, "when", when, of(4, 1, 0), Checks.BEYOND);
        refused(still, "when", when, of(0, 4, 0), Checks.BEYOND);
        refused(still, "when", when, of(0, 1, -1), Checks.BEYOND);
        Act sunniest = (x, a) -> x.sunniest(a[0], a[1]);
        Act exchange = (x, a) -> x.exchange(a[0], a[1]);
        for (Act act : new Act[] {sunniest, exchange}) {
            refused(bare, "sunniest or exchange", act, of(0, 1), Checks.NONE);
            refused(bare, "sunniest or exchange", act, of(9999, 960), Checks.NONE);
            refused(bare, "sunniest or exchange", act, of(-1, 1), Checks.BEYOND);
            refused(bare, "sunniest or exchange", act, of(10000, 1), Checks.BEYOND);
            refused(bare, "sunniest or exchange", act, of(0, 0), Checks.BEYOND);
            refused(bare, "sunniest or exchange", act, of(0, 961), Checks.BEYOND);
        }
        Act entry = (x, a) -> x.entry(a[0], a[1]);
        Consumer<TideQuarter> never = x -> {
            x.sets(1, Checks.ALL);
            x.ship(0, 0, 1);
            x.quay(0, 1);
        };
        refused(never, "entry", entry, of(0, 0), Checks.NONE);
        refused(never, "entry", entry, of(0, 1), Checks.NONE);
        refused(never, "entry", entry, of(0, 2), Checks.BEYOND);
        refused(never, "entry", entry, of(1, 0), Checks.BEYOND);
        Act order = (x, a) -> x.order(a[0]);
        refused(bare, "order", order, of(0), Checks.NONE);
        refused(bare, "order", order, of(5), Checks.NONE);
        refused(bare, "order", order, of(6), Checks.BEYOND);
        refused(bare, "order", order, of(-2), Checks.BEYOND);
        refused(mixed, "order", order, of(3), Checks.NONE);
        Consumer<TideQuarter> torn = x -> {
            Checks.mixed(x);
            x.tear();
        };
        refused(torn, "undo", (x, a) -> x.undo(), of(), Checks.NONE);
        sheetFindings(mixed);
    }

    private static void sheetFindings(Consumer<TideQuarter> mixed) {
        Act sheet = (x, a) -> x.sheet(a[0], a[1], a[2]);
        refused(mixed, "sheet", sheet, of(4, 8, -1), Checks.BEYOND);
        refused(mixed, "sheet", sheet, of(-1, 0, -1), Checks.BEYOND);
        refused(mixed, "sheet", sheet, of(0, 7, -1), Checks.BEYOND);
        refused(mixed, "sheet", sheet, of(0, 32, Integer.MIN_VALUE), Checks.BEYOND);
        Act write = (x, a) -> x.write(a[0], a[1], 7);
        refused(mixed, "write", write, of(3, 0), Checks.MISSING);
        refused(mixed, "write", write, of(3, -1), Checks.MISSING);
        refused(mixed, "write", write, of(3, 40), Checks.MISSING);
        refused(mixed, "write", write, of(4, 40), Checks.BEYOND);
        refused(Checks::bare, "write", write, of(0, 0), Checks.MISSING);
        Act copy = (x, a) -> x.copy(a[0], a[1], a[2], a[3], a[4]);
        refused(mixed, "copy", copy, of(3, 0, 4, 0, 0), Checks.BEYOND);
        refused(mixed, "copy", copy, of(4, 0, 3, 0, 0), Checks.BEYOND);
        refused(mixed, "copy", copy, of(3, 0, -1, 0, 0), Checks.BEYOND);
        refused(mixed, "copy", copy, of(-1, 0, 3, 0, 0), Checks.BEYOND);
        refused(mixed, "copy", copy, of(0, -1, 3, -1, -1), Checks.MISSING);
        refused(mixed, "copy", copy, of(3, 0, 0, 0, 0), Checks.MISSING);
        refused(mixed, "copy", copy, of(3, 0, 3, 0, 0), Checks.MISSING);
        refused(mixed, "copy", copy, of(0, 0, 1, 0, 0), Checks.KIND);
        refused(mixed, "copy", copy, of(1, 0, 2, 0, 1), Checks.KIND);
        refused(mixed, "copy", copy, of(2, -1, 0, -1, -1), Checks.KIND);
        refused(mixed, "copy", copy, of(0, 0, 0, 1, 3), Checks.BEYOND);
        Act lays = (x, a) -> x.lays(a[0]);
        refused(mixed, "lays", lays, of(3), Checks.MISSING);
        Act calendar = (x, a) -> x.calendar(a[0], a[1], a[2], a[3]);
        Act read = (x, a) -> x.read(a[0], a[1], a[2], a[3]);
        for (Act act : new Act[] {calendar, read}) {
            refused(mixed, "calendar or read", act, of(3, 0, 0, 1), Checks.MISSING);
            refused(mixed, "calendar or read", act, of(3, 4, 0, 1), Checks.MISSING);
            refused(mixed, "calendar or read", act, of(3, 0, -1, 1), Checks.MISSING);
            refused(mixed, "calendar or read", act, of(3, 0, 0, 0), Checks.MISSING);
            refused(mixed, "calendar or read", act, of(4, 4, -1, 0), Checks.BEYOND);
            refused(mixed, "calendar or read", act, of(-1, 0, 0, 1), Checks.BEYOND);
        }
    }

    public static void main(String[] args) {
        tides();
        houses();
        ships();
        fullAndEmpty();
        textAndSheets();
        others();
        findingsInOrder();
        Checks.end();
    }
}
