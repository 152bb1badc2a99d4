/** The sentences of the document that name an edge of ships, their order and the bridge: promises 21 to 30. */
public final class ShipsEdgeTest {
    private static final int NEVER = 960;

    private static void lies(TideQuarter x, int ship, int front, int tick, int want) {
        Checks.due("lies(" + ship + ", " + front + ", " + tick + ")", x.lies(ship, front, tick), want);
    }

    private static void entry(TideQuarter x, int ship, int tick, int front) {
        Checks.due("entry(" + ship + ", 0)", x.entry(ship, 0), tick);
        Checks.due("entry(" + ship + ", 1)", x.entry(ship, 1), front);
    }

    private static void waits(TideQuarter x, int ship, int wait, int front) {
        Checks.due("waits(" + ship + ", 0)", x.waits(ship, 0), wait);
        Checks.due("waits(" + ship + ", 1)", x.waits(ship, 1), front);
    }

    /** The sum of the waits, then the ships in their order, then none. */
    private static void order(TideQuarter x, int sum, int... ships) {
        Checks.due("order(-1)", x.order(-1), sum);
        for (int i = 0; i < ships.length; i++) {
            Checks.due("order(" + i + ")", x.order(i), ships[i]);
        }
        for (int i = ships.length; i < 6; i++) {
            Checks.due("order(" + i + "), no i-th", x.order(i), Checks.NONE);
        }
    }

    /** Ships told by COURSE, COMES, STAYS and QUAY. */
    private static TideQuarter with(TideQuarter x, int... told) {
        for (int i = 0; i < told.length; i += 4) {
            x.quay(x.ship(told[i], told[i + 1], told[i + 2]), told[i + 3]);
        }
        return x;
    }

    private static TideQuarter of(int... told) {
        return with(new TideQuarter(), told);
    }

    private static TideQuarter still(int... told) {
        return with(Checks.still(), told);
    }

    private static TideQuarter tides(int flood, int period, int length) {
        TideQuarter x = new TideQuarter();
        x.tides(0, flood);
        x.tides(1, period);
        x.tides(2, length);
        return x;
    }

    private static void many() {
        Checks.says(0, "SHIPS 0, 1, .. (at most 6): COURSE (a SIDE), COMES (a TICK), STAYS (1 to 40 TICKS), QUAY (a FRONT, or any: -1).");
        TideQuarter x = new TideQuarter();
        int[][] told = {{0, 0, 1}, {3, 9999, 40}, {1, 1, 2}, {2, 9998, 39}, {0, 5000, 20}, {3, 7, 7}};
        for (int s = 0; s < 6; s++) {
            Checks.due("count(1)", x.count(1), s);
            Checks.due("shipOf(" + s + ", 0), not yet there", x.shipOf(s, 0), Checks.BEYOND);
            Checks.due("ship()", x.ship(told[s][0], told[s][1], told[s][2]), s);
            for (int what = 0; what < 3; what++) {
                Checks.due("shipOf(" + s + ", " + what + ")", x.shipOf(s, what), told[s][what]);
            }
            Checks.due("shipOf(" + s + ", 3), any", x.shipOf(s, 3), -1);
        }
        Checks.says(21, "A new SHIP (any QUAY): its number. BEYOND: course, comes, stays. FULL.");
        Checks.due("ship(), a 7th", x.ship(0, 0, 1), Checks.FULL);
        Checks.due("ship(), a 7th again", x.ship(3, 9999, 40), Checks.FULL);
        Checks.due("count(1)", x.count(1), 6);
        Checks.due("shipOf(6, 0)", x.shipOf(6, 0), Checks.BEYOND);
        Checks.refused("ship(0, 0, 1), a 7th", Checks::full, y -> y.ship(0, 0, 1), Checks.FULL);
        Checks.says(23, "QUAY of a SHIP becomes v (-1 to 3): what it was.");
        int was = -1;
        for (int v : new int[] {3, -2, 0, 4, -1, -1, 2}) {
            boolean mayBe = v >= -1 && v <= 3;
            Checks.due("quay(5, " + v + ")", x.quay(5, v), mayBe ? was : Checks.BEYOND);
            was = mayBe ? v : was;
            Checks.due("shipOf(5, 3)", x.shipOf(5, 3), was);
        }
        Checks.due("shipOf(4, 3), another's", x.shipOf(4, 3), -1);
        Checks.says(24, "All SHIPS are gone: how many there were.");
        Checks.due("clear(), six", x.clear(), 6);
        Checks.due("clear(), none", x.clear(), 0);
        Checks.due("count(1)", x.count(1), 0);
        Checks.due("shipOf(0, 0)", x.shipOf(0, 0), Checks.BEYOND);
        order(x, 0);
        for (int s = 0; s < 6; s++) {
            Checks.due("ship(), all gone", x.ship(1, 2, 3), s);
            Checks.due("shipOf(" + s + ", 3), any again", x.shipOf(s, 3), -1);
        }
        Checks.due("ship(), a 7th", x.ship(1, 2, 3), Checks.FULL);
        Checks.changesNothing("clear() of none", Checks::bare, TideQuarter::clear, 0);
    }

    private static void canLie() {
        Checks.says(0, "A SHIP can LIE from a TICK on, at a FRONT, if that FRONT looks to its COURSE at that TICK and at all of the STAYS TICKS from it on (it too is one of them).");
        TideQuarter x = of(1, 5000, 40, -1, 1, 0, 1, 3, 1, 0, 20, -1, 1, 0, 21, -1, 1, 0, 19, -1);
        int[][] want = {
            {0, 22, 0}, {0, 23, 1}, {0, 30, 1}, {0, 31, 0}, {0, 69, 0}, {1, 19, 0}, {1, 22, 0}, {1, 23, 1}, {1, 69, 1}, {1, 70, 0},
            {2, 50, 1}, {2, 51, 0}, {3, 49, 1}, {3, 50, 0}, {4, 51, 1}, {4, 52, 0},
        };
        for (int[] w : want) {
            lies(x, w[0], 0, w[1], w[2]);
            lies(x, w[0], 2, w[1], 0);
            lies(x, w[0], 3, w[1], 0);
        }
        lies(x, 2, 1, 0, 1);
        lies(x, 2, 1, 1, 0);
        lies(x, 3, 1, 0, 0);
        lies(x, 4, 1, 1, 1);
        lies(x, 1, 1, 19, 1);
        lies(x, 1, 1, 20, 0);
        lies(x, 1, 1, 23, 0);
        // tide 1 fails: calm from 23 up to 119
        x.sets(1, 2);
        lies(x, 0, 0, 31, 1);
        lies(x, 0, 0, 80, 1);
        lies(x, 0, 0, 81, 0);
        // and it stands in HALVES too, which is nothing
        x.sets(2, 2);
        lies(x, 0, 0, 80, 1);
        lies(x, 0, 0, 81, 0);
        x.sets(1, 0);
        lies(x, 0, 0, 30, 1);
        lies(x, 0, 0, 31, 0);
        lies(x, 1, 3, 122, 0);
        lies(x, 1, 2, 123, 1);
        Checks.says(25, "Whether a SHIP can LIE from a TICK on, at a FRONT: 1, 0.");
        TideQuarter y = of(2, 0, 21, -1, 2, 0, 22, -1, 2, 0, 1, 0);
        lies(y, 0, 2, 9999, 1);
        lies(y, 1, 2, 9999, 0);
        lies(y, 2, 2, 9999, 1);
        lies(y, 2, 0, 9999, 0);
        Checks.due("status(-1)", y.status(-1), 0);
    }

    private static void entries() {
        Checks.says(0, "ENTRY of a SHIP: the first TICK from COMES on (within 960 TICKS: COMES and 959 at most) from which it can LIE at its QUAY (any: at some FRONT; of several the least FRONT).");
        for (int course = 0; course < 4; course++) {
            TideQuarter x = of(course, 0, 20, -1, course, 1, 20, -1, course, 0, 21, -1, course, 19, 1, -1, course, 20, 1, -1, course, 22, 40, -1);
            entry(x, 0, 0, course);
            entry(x, 1, 23, (course + 3) % 4);
            entry(x, 2, 23, (course + 3) % 4);
            entry(x, 3, 19, course);
            entry(x, 4, 23, (course + 3) % 4);
            entry(x, 5, 23, (course + 3) % 4);
            for (int quay = 0; quay < 4; quay++) {
                x.quay(0, quay);
                int quarters = (course - quay + 4) % 4;
                entry(x, 0, quarters == 0 ? 0 : 50 * quarters - 27, quay);
            }
        }
        entry(of(0, 9999, 21, -1), 0, 9999, 0);
        entry(of(0, 9999, 22, -1), 0, 10023, 3);
        // the calms are 40 ticks long, then 39
        entry(with(tides(20, 43, 3), 1, 21, 40, -1), 0, 23, 0);
        entry(with(tides(20, 42, 3), 1, 21, 40, -1), 0, Checks.NONE, Checks.NONE);
        entry(with(tides(20, 42, 3), 1, 21, 39, -1), 0, 23, 0);
        entry(with(tides(0, 16, 7), 0, 0, 9, -1), 0, 7, 3);
        entry(with(tides(0, 16, 7), 0, 0, 10, -1), 0, Checks.NONE, Checks.NONE);
        Checks.says(26, "ENTRY of a SHIP: what 0 the TICK, 1 the FRONT. BEYOND. NONE.");
        // tide 30 ends at 1523, and till then no front looks elsewhere than by its number
        entry(still(1, 564, 1, 0), 0, 1523, 0);
        entry(still(1, 563, 1, 0), 0, Checks.NONE, Checks.NONE);
        entry(still(1, 564, 40, 0), 0, 1523, 0);
        entry(still(1, 563, 1, 1), 0, 563, 1);
        entry(still(1, 1481, 40, -1), 0, 1523, 0);
        entry(still(1, 1480, 40, -1), 0, 1480, 1);
        // the last of 960 ticks, the stay reaches far behind it, or begins one tick too late
        entry(with(tides(155, 400, 3), 0, 9999, 40, 0), 0, 10958, 0);
        entry(with(tides(156, 400, 3), 0, 9999, 40, 0), 0, Checks.NONE, Checks.NONE);
        TideQuarter half = still(1, 563, 1, -1, 1, 564, 1, -1);
        half.sets(1, 0);
        half.sets(2, Checks.ALL);
        entry(half, 0, Checks.NONE, Checks.NONE);
        entry(half, 1, 1523, 2);
        Checks.due("status(3)", half.status(3), 2);
        Checks.refused("entry(0, 0)", x -> with(x, 0, 0, 40, -1).tides(1, 16), x -> x.entry(0, 0), Checks.NONE);
        Checks.refused("entry(0, 1)", x -> with(x, 0, 0, 40, -1).tides(1, 16), x -> x.entry(0, 1), Checks.NONE);
    }

    private static void waitsTold() {
        Checks.says(0, "WAIT: how many TICKS from COMES to that; 960 if there is none (it lies nowhere then).");
        TideQuarter last = still(1, 564, 1, 0, 1, 563, 1, 0);
        waits(last, 0, 959, 0);
        waits(last, 1, NEVER, -1);
        order(last, 959 + 960, 0, 1);
        Checks.due("waits(0, 0), the last of 960 ticks", with(tides(155, 400, 3), 0, 9999, 40, 0).waits(0, 0), 959);
        Checks.due("waits(0, 0), one too late", with(tides(156, 400, 3), 0, 9999, 40, 0).waits(0, 0), NEVER);
        // both would go in at 1523: either the second waits for 959 too, or the first goes never
        TideQuarter tie = still(1, 565, 1, 0, 1, 564, 1, 0);
        order(tie, 958 + 960, 0, 1);
        waits(tie, 0, 958, 0);
        waits(tie, 1, NEVER, -1);
        tie.clear();
        with(tie, 1, 564, 1, 0, 1, 565, 1, 0);
        order(tie, 959 + 959, 0, 1);
        waits(tie, 0, 959, 0);
        waits(tie, 1, 959, 0);
        TideQuarter longer = still(1, 564, 2, 0, 1, 565, 1, 0);
        order(longer, 958 + 960, 1, 0);
        waits(longer, 0, NEVER, -1);
        waits(longer, 1, 958, 0);
        TideQuarter room = still(1, 564, 2, 0, 1, 566, 1, 0);
        order(room, 957 + 960, 1, 0);
        // one that goes in never lies in nobody's way
        TideQuarter way = still(1, 0, 40, 0, 0, 0, 40, -1, 0, 0, 1, 3);
        order(way, 960 + 0 + 960, 0, 1, 2);
        waits(way, 1, 0, 0);
        Checks.says(28, "(-1: nowhere)");
        waits(way, 0, NEVER, -1);
        waits(way, 2, NEVER, -1);
        Checks.due("status(-1)", way.status(-1), 3);
    }

    private static void orders() {
        Checks.says(0, "where none of those ahead in the order lies in any of its TICKS (of several FRONTS the least)");
        TideQuarter x = still(0, 0, 10, -1, 0, 10, 10, -1, 0, 20, 1, -1);
        order(x, 0, 0, 1, 2);
        x.clear();
        with(x, 0, 0, 10, -1, 0, 9, 10, -1);
        order(x, 1, 0, 1);
        waits(x, 1, 1, 0);
        x.clear();
        with(x, 0, 0, 10, -1, 1, 0, 10, -1, 2, 0, 10, -1, 3, 0, 10, -1);
        order(x, 0, 0, 1, 2, 3);
        waits(x, 3, 0, 3);
        x.clear();
        with(x, 0, 10, 40, -1, 0, 0, 11, -1);
        order(x, 1, 1, 0);
        waits(x, 0, 1, 0);
        x.clear();
        with(x, 0, 10, 5, -1, 0, 0, 10, -1, 0, 15, 5, -1, 0, 0, 1, -1);
        // 1, 3 and 0 crowd from 0 on: 3 first, then 1 one tick late, 0 one tick late and 2 too
        order(x, 3, 3, 1, 0, 2);
        // a gap between two that are ahead is taken if the stay fits just in
        TideQuarter gap = still(0, 0, 10, 0, 0, 15, 40, 0, 0, 0, 5, 0);
        order(gap, 5, 1, 2, 0);
        waits(gap, 0, 5, 0);
        TideQuarter just = still(0, 15, 40, 0, 0, 0, 10, 0, 0, 8, 5, 0);
        order(just, 2, 0, 1, 2);
        waits(just, 2, 2, 0);
        // behind a calm: the second has to wait for the next one, at another front
        TideQuarter next = of(0, 0, 15, -1, 0, 0, 15, -1, 0, 0, 15, 0);
        order(next, 23 + 38, 2, 0, 1);
        waits(next, 0, 23, 3);
        waits(next, 1, 38, 3);
        waits(next, 2, 0, 0);
        next.quay(0, 0);
        order(next, 23 + 173, 0, 1, 2);
        next.quay(2, -1);
        next.quay(1, 0);
        order(next, 23 + 173, 0, 1, 2);
        waits(next, 2, 23, 3);
        TideQuarter fits = of(0, 0, 10, -1, 0, 0, 10, -1);
        order(fits, 10, 0, 1);
        TideQuarter one = of(0, 0, 10, -1, 0, 0, 11, -1);
        order(one, 23, 0, 1);
        one.tides(0, 21);
        order(one, 10, 0, 1);
        bestOrder();
    }

    private static void bestOrder() {
        Checks.says(0, "THE BEST ORDER: that with the least sum of WAITS; of several the first by the SHIPS' numbers.");
        TideQuarter x = still(0, 0, 40, -1, 0, 0, 39, -1);
        order(x, 39, 1, 0);
        x.clear();
        with(x, 0, 0, 40, -1, 0, 0, 40, -1);
        order(x, 40, 0, 1);
        x.clear();
        with(x, 0, 0, 6, -1, 0, 0, 5, -1, 0, 0, 4, -1, 0, 0, 3, -1, 0, 0, 2, -1, 0, 0, 1, -1);
        order(x, 1 + 3 + 6 + 10 + 15, 5, 4, 3, 2, 1, 0);
        x.clear();
        with(x, 0, 0, 5, -1, 0, 0, 5, -1, 0, 0, 5, -1, 0, 0, 5, -1, 0, 0, 5, -1, 0, 0, 5, -1);
        order(x, 5 + 10 + 15 + 20 + 25, 0, 1, 2, 3, 4, 5);
        // 0 never goes in, wherever it stands: ahead of all it is the first by numbers
        x.quay(0, 1);
        order(x, 960 + 5 + 10 + 15 + 20, 0, 1, 2, 3, 4, 5);
        x.quay(0, -1);
        x.quay(5, 2);
        order(x, 960 + 5 + 10 + 15 + 20, 0, 1, 2, 3, 4, 5);
        for (int s = 0; s < 6; s++) {
            x.quay(s, 3);
        }
        order(x, 6 * 960, 0, 1, 2, 3, 4, 5);
        waits(x, 5, NEVER, -1);
        TideQuarter never = still(0, 0, 1, 1, 0, 0, 1, 2, 0, 0, 1, 3, 0, 0, 1, 1, 0, 0, 1, 2, 0, 0, 1, 3);
        order(never, 6 * 960, 0, 1, 2, 3, 4, 5);
        for (int s = 0; s < 6; s++) {
            waits(never, s, NEVER, -1);
        }
        orderAnew();
        Checks.says(27, "THE BEST ORDER: what -1 the sum of WAITS, i (0 to 5) the i-th SHIP. BEYOND. NONE: it has no i-th.");
        order(new TideQuarter(), 0);
        order(of(2, 5, 5, -1), 0, 0);
        TideQuarter six = of(0, 0, 40, 0, 1, 0, 1, 1, 2, 0, 1, 2, 3, 0, 1, 3, 0, 0, 1, 1, 0, 0, 1, 2);
        order(six, 173 + 0 + 0 + 0 + 123 + 73, 0, 1, 2, 3, 4, 5);
        Checks.due("order(6)", six.order(6), Checks.BEYOND);
        Checks.due("order(-2)", six.order(-2), Checks.BEYOND);
        for (int i = 0; i < 6; i++) {
            int what = i;
            Checks.refused("order(" + i + ") of no ships", Checks::bare, y -> y.order(what), Checks.NONE);
        }
        Checks.refused("order(3) of three ships", Checks::mixed, y -> y.order(3), Checks.NONE);
        Checks.refused("order(5) of three ships", Checks::mixed, y -> y.order(5), Checks.NONE);
        Checks.changesNothing("order(-1) of no ships", Checks::bare, y -> y.order(-1), 0);
    }

    /** Each call that changes what the best order hangs on, between two questions for it. */
    private static void orderAnew() {
        TideQuarter x = of(0, 0, 20, -1);
        order(x, 0, 0);
        x.tides(0, 19);
        order(x, 22, 0);
        x.tides(2, 4);
        order(x, 23, 0);
        x.sets(0, 1);
        order(x, 23, 0);
        x.tides(3, 1);
        order(x, 0, 0);
        x.sets(0, 0);
        order(x, 23, 0);
        x.tides(1, 23);
        order(x, 960, 0);
        x.tides(1, 24);
        order(x, 23, 0);
        x.quay(0, 2);
        order(x, 23 + 24, 0);
        x.sets(2, 1);
        order(x, 23 + 24, 0);
        x.sets(1, 2);
        order(x, 23 + 48, 0);
        x.sets(1, 3);
        order(x, 23 + 72, 0);
        x.quay(0, -1);
        order(x, 0, 0);
        x.image();
        x.ship(0, 0, 20);
        order(x, 20, 0, 1);
        Checks.tell(x, "ship 0 comes 0 stays 19;fails 0 1 2 3;flood 39");
        x.island();
        order(x, 19 + 39, 2, 0, 1);
        x.undo();
        order(x, 0, 0);
        x.clear();
        order(x, 0);
        x.ship(0, 5, 40);
        x.ship(0, 5, 40);
        order(x, 960, 0, 1);
        x.clear();
        order(x, 0);
        waitsAnew();
    }

    private static void waitsAnew() {
        TideQuarter x = of(0, 0, 20, -1);
        x.image();
        waits(x, 0, 0, 0);
        x.tides(0, 19);
        waits(x, 0, 22, 3);
        x.sets(1, 1);
        waits(x, 0, 0, 0);
        x.quay(0, 1);
        waits(x, 0, 172, 1);
        Checks.tell(x, "fails 29");
        x.island();
        waits(x, 0, 122, 1);
        x.undo();
        waits(x, 0, 0, 0);
        x.clear();
        x.ship(1, 0, 1);
        waits(x, 0, 0, 1);
    }

    private static void fast(TideQuarter x, int tick, int want) {
        Checks.due("fast(" + tick + ")", x.fast(tick), want);
    }

    private static void off(TideQuarter x, int tick, int n, int want) {
        Checks.due("off(" + tick + ", " + n + ")", x.off(tick, n), want);
    }

    private static void bridges() {
        Checks.says(29, "THE BRIDGE: from a TICK on, for how many TICKS it can be fast (960 at most; 0: it is BETWEEN).");
        TideQuarter x = new TideQuarter();
        fast(x, 0, 20);
        fast(x, 18, 2);
        fast(x, 19, 1);
        fast(x, 20, 0);
        fast(x, 22, 0);
        fast(x, 23, 47);
        fast(x, 69, 1);
        fast(x, 9973, 47);
        fast(x, 9999, 21);
        fast(tides(0, 50, 3), 0, 0);
        fast(tides(400, 50, 3), 0, 400);
        fast(tides(399, 400, 1), 9999, 0);
        TideQuarter still = Checks.still();
        fast(still, 0, 960);
        fast(still, 559, 960);
        fast(still, 560, 960);
        fast(still, 561, 959);
        fast(still, 1519, 1);
        fast(still, 1520, 0);
        still.tides(0, 400);
        still.tides(1, 400);
        fast(still, 9999, 960);
        TideQuarter half = new TideQuarter();
        half.sets(2, 2);
        fast(half, 23, 47);
        fast(half, 70, 0);
        fast(half, 119, 0);
        fast(half, 122, 0);
        fast(half, 123, 47);
        half.sets(1, 2);
        fast(half, 23, 97);
        fast(half, 70, 50);
        Checks.says(30, "How many of n TICKS (1 to 960) from one on are BETWEEN.");
        off(x, 19, 1, 0);
        off(x, 20, 1, 1);
        off(x, 22, 1, 1);
        off(x, 23, 1, 0);
        off(x, 0, 20, 0);
        off(x, 0, 21, 1);
        off(x, 0, 23, 3);
        off(x, 0, 70, 3);
        off(x, 0, 71, 4);
        off(x, 22, 49, 2);
        off(x, 0, 960, 57);
        off(x, 9999, 21, 0);
        off(x, 9999, 22, 1);
        off(x, 9999, 960, 57);
        TideQuarter all = new TideQuarter();
        all.sets(2, Checks.ALL);
        off(all, 20, 960, 960);
        off(all, 20, 959, 959);
        off(all, 19, 960, 959);
        off(all, 563, 960, 960);
        off(all, 564, 960, 959);
        off(Checks.still(), 0, 960, 0);
        off(Checks.still(), 560, 960, 0);
        off(Checks.still(), 561, 960, 1);
    }

    public static void main(String[] args) {
        many();
        canLie();
        entries();
        waitsTold();
        orders();
        bridges();
        Checks.end();
    }
}
