/** The sentences of the document that name an edge of tides, fronts and wind: promises 1 to 10. */
public final class TidesEdgeTest {
    private static final int FLOOD = 0;
    private static final int PERIOD = 1;
    private static final int LENGTH = 2;
    private static final int LAG = 3;
    private static final int LATE = 0;
    private static final int FAILS = 1;
    private static final int HALVES = 2;
    private static final int ALL = Checks.ALL;

    private static void turned(TideQuarter x, int tick, int want) {
        Checks.due("turned(" + tick + ")", x.turned(tick), want);
    }

    private static void between(TideQuarter x, int tick, int want) {
        Checks.due("between(" + tick + ")", x.between(tick), want);
    }

    private static void looks(TideQuarter x, int front, int tick, int want) {
        Checks.due("looks(" + front + ", " + tick + ")", x.looks(front, tick), want);
    }

    /** A calm up to a tick, between from it on, calm again from another on; there it has turned. */
    private static void turns(TideQuarter x, int begins, int ends, int was, int becomes) {
        if (begins > 0) {
            between(x, begins - 1, 0);
            turned(x, begins - 1, was);
        }
        between(x, begins, 1);
        turned(x, begins, was);
        between(x, ends - 1, 1);
        turned(x, ends - 1, was);
        between(x, ends, 0);
        turned(x, ends, becomes);
    }

    private static TideQuarter told(int flood, int period, int length, int lag) {
        TideQuarter x = new TideQuarter();
        x.tides(FLOOD, flood);
        x.tides(PERIOD, period);
        x.tides(LENGTH, length);
        x.tides(LAG, lag);
        return x;
    }

    private static TideQuarter sets(int late, int fails, int halves) {
        TideQuarter x = new TideQuarter();
        x.sets(LATE, late);
        x.sets(FAILS, fails);
        x.sets(HALVES, halves);
        return x;
    }

    private static void atFirst() {
        Checks.says(0, "FLOOD (0 to 400; 20 at first), PERIOD (16 to 400; 50 at first), LENGTH (1 to 7; 3 at first), LAG (0 to 8; 0 at first); THE SETS LATE, FAILS, HALVES (of TIDES 0 to 29, none at first).");
        TideQuarter x = new TideQuarter();
        Checks.due("FLOOD at first", x.tides(FLOOD, 0), 20);
        Checks.due("PERIOD at first", x.tides(PERIOD, 16), 50);
        Checks.due("LENGTH at first", x.tides(LENGTH, 1), 3);
        Checks.due("LAG at first", x.tides(LAG, 8), 0);
        for (int what = 0; what < 3; what++) {
            Checks.due("set " + what + " at first", x.sets(what, 1), 0);
        }
        Checks.says(0, "WIND: a SIDE from which it blows (0 at first), a FORCE (0 to 9; 3 at first).");
        Checks.due("the SIDE of WIND at first", x.count(4), 0);
        Checks.due("FORCE at first", x.count(2), 3);
        Checks.says(1, "No HOUSES, SHIPS; THE TAPE is empty, no image is kept.");
        Checks.due("count(0)", x.count(0), 0);
        Checks.due("count(1)", x.count(1), 0);
        Checks.due("count(3)", x.count(3), 0);
        Checks.due("tear()", x.tear(), 0);
        Checks.due("wipe()", x.wipe(), 0);
        Checks.due("clear()", x.clear(), 0);
        Checks.due("island(), nothing told", x.island(), -1);
        for (int which = -1; which < 7; which++) {
            Checks.due("status(" + which + ")", x.status(which), 0);
        }
        TideQuarter y = new TideQuarter();
        Checks.due("undo(), nothing kept", y.undo(), Checks.NONE);
        Checks.due("tides(0, 1) of another object", y.tides(FLOOD, 1), 20);
        Checks.due("sets(0, 0) of another object", y.sets(LATE, 0), 0);
    }

    private static void become() {
        Checks.says(2, "FLOOD (what 0), PERIOD (1), LENGTH (2), LAG (3) becomes v: what it was.");
        int[] least = {0, 16, 1, 0};
        int[] most = {400, 400, 7, 8};
        int[] first = {20, 50, 3, 0};
        TideQuarter x = new TideQuarter();
        for (int what = 0; what < 4; what++) {
            Checks.due("tides(" + what + "), the least", x.tides(what, least[what]), first[what]);
            Checks.due("tides(" + what + "), the most", x.tides(what, most[what]), least[what]);
            Checks.due("tides(" + what + "), the same again", x.tides(what, most[what]), most[what]);
            x.tides(what, most[what] + 1);
            x.tides(what, least[what] - 1);
            Checks.due("tides(" + what + ") behind refused ones", x.tides(what, first[what]), most[what]);
        }
        Checks.says(3, "LATE (what 0), FAILS (1), HALVES (2) becomes a set: what it was.");
        for (int what = 0; what < 3; what++) {
            int was = 0;
            for (int set : new int[] {1, 1 << 29, ALL, ALL - 1, 0}) {
                Checks.due("sets(" + what + ", " + set + ")", x.sets(what, set), was);
                x.sets(what, 1 << 30);
                x.sets(what, -1);
                was = set;
            }
            Checks.due("sets(" + what + ", 0), empty again", x.sets(what, 0), 0);
        }
        Checks.says(4, "WIND: a SIDE and a FORCE: what FORCE was.");
        Checks.due("wind(3, 0)", x.wind(3, 0), 3);
        Checks.due("wind(0, 9)", x.wind(0, 9), 0);
        Checks.due("wind(2, 9)", x.wind(2, 9), 9);
        Checks.due("wind(3, 10)", x.wind(3, 10), Checks.BEYOND);
        Checks.due("wind(4, 1)", x.wind(4, 1), Checks.BEYOND);
        Checks.due("the SIDE behind refused ones", x.count(4), 2);
        Checks.due("FORCE behind refused ones", x.count(2), 9);
    }

    private static void beginsAndEnds() {
        Checks.says(0, "TIDE k (0, 1, ..) BEGINS at TICK FLOOD and k times PERIOD, and LAG more, if it is in LATE; it ENDS LENGTH TICKS later.");
        TideQuarter x = new TideQuarter();
        turns(x, 20, 23, 0, 1);
        turns(x, 70, 73, 1, 2);
        turns(x, 9970, 9973, 199, 200);
        turned(x, 0, 0);
        between(x, 0, 0);
        turned(x, 9999, 200);
        between(x, 9999, 0);
        turns(told(0, 50, 3, 0), 0, 3, 0, 1);
        turns(told(1, 50, 3, 0), 1, 4, 0, 1);
        turns(told(400, 50, 3, 0), 400, 403, 0, 1);
        turns(told(20, 16, 3, 0), 36, 39, 1, 2);
        turns(told(20, 400, 3, 0), 420, 423, 1, 2);
        turns(told(20, 50, 1, 0), 20, 21, 0, 1);
        turns(told(20, 50, 7, 0), 20, 27, 0, 1);
        turns(told(20, 50, 7, 0), 70, 77, 1, 2);
        turns(told(399, 400, 7, 0), 9999 - 400, 9999 - 393, 23, 24);
        between(told(399, 400, 1, 0), 9999, 1);
        turned(told(399, 400, 1, 0), 9999, 24);
        turned(told(398, 400, 1, 0), 9999, 25);
        turned(told(400, 400, 7, 0), 9999, 24);
        turned(told(0, 16, 1, 0), 9999, 625);
        turned(told(0, 16, 1, 0), 9984, 624);
        between(told(0, 16, 1, 0), 9984, 1);
        late();
    }

    private static void late() {
        TideQuarter x = told(20, 50, 3, 8);
        turns(x, 20, 23, 0, 1);
        x.sets(LATE, 1);
        turns(x, 28, 31, 0, 1);
        turns(x, 70, 73, 1, 2);
        x.tides(LAG, 0);
        turns(x, 20, 23, 0, 1);
        x.tides(LAG, 1);
        turns(x, 21, 24, 0, 1);
        x.sets(LATE, ALL);
        turns(x, 1471, 1474, 29, 30);
        turns(x, 1520, 1523, 30, 31);
        x.sets(LATE, 1 << 29);
        turns(x, 20, 23, 0, 1);
        turns(x, 1420, 1423, 28, 29);
        turns(x, 1471, 1474, 29, 30);
        // as near as tides come: one tick of calm between 29, late, and 30, in no set
        TideQuarter y = told(0, 16, 7, 8);
        y.sets(LATE, ALL);
        turns(y, 8, 15, 0, 1);
        turns(y, 24, 31, 1, 2);
        turns(y, 472, 479, 29, 30);
        turns(y, 480, 487, 30, 31);
        y.sets(LATE, ALL - 2);
        turns(y, 8, 15, 0, 1);
        turns(y, 16, 23, 1, 2);
    }

    private static void inSets() {
        Checks.says(0, "One in FAILS turns nothing.");
        TideQuarter x = sets(0, 1, 0);
        turned(x, 23, 0);
        between(x, 20, 0);
        between(x, 22, 0);
        turns(x, 70, 73, 0, 1);
        x.sets(FAILS, 1 << 29);
        turns(x, 1420, 1423, 28, 29);
        between(x, 1470, 0);
        turned(x, 1473, 29);
        turns(x, 1520, 1523, 29, 30);
        Checks.says(0, "THE SETS LATE, FAILS, HALVES (of TIDES 0 to 29, none at first)");
        x.sets(FAILS, ALL);
        turned(x, 1519, 0);
        // a set's bits by a wrapping shift would stand for 30 and more, 32 or 64 and more
        for (int k : new int[] {30, 31, 32, 33, 61, 62, 63, 64, 65, 96, 199}) {
            turns(x, 20 + 50 * k, 23 + 50 * k, k - 30, k - 29);
        }
        x.sets(FAILS, 0);
        x.sets(LATE, ALL);
        x.tides(LAG, 8);
        for (int k : new int[] {30, 31, 32, 33, 61, 62, 63, 64, 65, 96, 199}) {
            turns(x, 20 + 50 * k, 23 + 50 * k, k, k + 1);
        }
        x.sets(LATE, 0);
        x.sets(HALVES, ALL);
        turned(x, 1523, 31);
        for (int k : new int[] {31, 32, 33, 61, 62, 63, 64, 65, 96, 199}) {
            turns(x, 20 + 50 * k, 23 + 50 * k, k, k + 1);
        }
    }

    private static void halves() {
        Checks.says(0, "One in HALVES (and not in FAILS) doesn't end, but stays half till the next one that is in neither ENDS: that one turns by one quarter more for each HALF that stayed so.");
        turns(sets(0, 0, 1), 20, 73, 0, 2);
        turns(sets(0, 0, 1), 120, 123, 2, 3);
        turns(sets(0, 0, 2), 70, 123, 1, 3);
        turns(sets(0, 0, 3), 20, 123, 0, 3);
        turns(sets(0, 2, 1), 20, 123, 0, 2);
        turns(sets(0, 6, 9), 20, 223, 0, 3);
        turns(sets(0, 5, 2), 70, 173, 0, 2);
        turns(sets(0, 0, 5), 20, 73, 0, 2);
        turns(sets(0, 0, 5), 120, 173, 2, 4);
        turns(sets(0, 0, 1 << 29), 1470, 1523, 29, 31);
        turns(sets(0, 0, ALL), 20, 1523, 0, 31);
        turns(sets(0, ALL - 1, 1), 20, 1523, 0, 2);
        turns(sets(0, ALL - 1, ALL), 20, 1523, 0, 2);
        turns(sets(0, ALL - (1 << 29), ALL), 1470, 1523, 0, 2);
        TideQuarter both = sets(0, 1, 1);
        between(both, 20, 0);
        between(both, 69, 0);
        turns(both, 70, 73, 0, 1);
        TideQuarter all = sets(0, ALL, ALL);
        between(all, 1519, 0);
        turns(all, 1520, 1523, 0, 1);
        turned(sets(0, 0, ALL), 9999, 200);
        TideQuarter x = sets(3, 0, 1);
        x.tides(LAG, 8);
        turns(x, 28, 81, 0, 2);
        // tide 23 stays half beyond the last tick, for tide 24 ends at 10007
        TideQuarter y = told(400, 400, 7, 0);
        y.sets(HALVES, 1 << 23);
        turned(y, 9599, 23);
        between(y, 9599, 0);
        between(y, 9600, 1);
        between(y, 9999, 1);
        turned(y, 9999, 23);
        Checks.due("when(3, 0, 9999), both quarters", y.when(3, 0, 9999), 10007);
        // one that is neither sets none right ahead of its own end
        TideQuarter z = sets(0, 0, 1);
        between(z, 69, 1);
        between(z, 70, 1);
        between(z, 72, 1);
        turned(z, 72, 0);
    }

    private static void turnedAndBetween() {
        Checks.says(0, "TURNED at a TICK: by how many quarters in all that ENDED by then (at this TICK or ahead).");
        TideQuarter x = new TideQuarter();
        for (int k = 0; k < 5; k++) {
            turned(x, 22 + 50 * k, k);
            turned(x, 23 + 50 * k, k + 1);
            turned(x, 24 + 50 * k, k + 1);
        }
        Checks.says(0, "BETWEEN: at TICKS from where a TIDE that isn't in FAILS BEGINS on till (not at) where it ENDS, or, of a HALF, till it is set right.");
        int[] want = {0, 1, 1, 1, 0, 0};
        for (int i = 0; i < want.length; i++) {
            between(x, 19 + i, want[i]);
            between(x, 9969 + i, want[i]);
        }
        x.sets(FAILS, 1);
        for (int i = 0; i < want.length; i++) {
            between(x, 19 + i, 0);
            between(x, 69 + i, want[i]);
        }
        x.sets(HALVES, 2);
        for (int tick = 68; tick < 128; tick++) {
            between(x, tick, tick >= 70 && tick < 123 ? 1 : 0);
        }
    }

    private static void fronts() {
        Checks.says(0, "FRONT f looks to the SIDE that is f and TURNED, by 4 the rest; BETWEEN it looks nowhere (-1).");
        TideQuarter x = new TideQuarter();
        for (int f = 0; f < 4; f++) {
            for (int quarters = 0; quarters < 9; quarters++) {
                looks(x, f, quarters == 0 ? 0 : 50 * quarters - 27, (f + quarters) % 4);
                looks(x, f, 50 * quarters + 19, (f + quarters) % 4);
                looks(x, f, 50 * quarters + 20, -1);
                looks(x, f, 50 * quarters + 22, -1);
            }
            looks(told(0, 16, 1, 0), f, 9999, (f + 625) % 4);
            looks(sets(0, 0, 1), f, 72, -1);
            looks(sets(0, 0, 1), f, 73, (f + 2) % 4);
            looks(sets(0, 1, 0), f, 21, f);
        }
        Checks.says(8, "(-1: nowhere)");
        Checks.due("status(-1), nowhere is no finding", x.status(-1), 0);
        Checks.says(9, "NONE: it is BETWEEN.");
        for (int side = 0; side < 4; side++) {
            for (int quarters = 0; quarters < 6; quarters++) {
                Checks.due("front at the last calm tick", x.front(side, 50 * quarters + 19), (side - quarters + 8) % 4);
                Checks.due("front at the first tick between", x.front(side, 50 * quarters + 20), Checks.NONE);
                Checks.due("front at the last tick between", x.front(side, 50 * quarters + 22), Checks.NONE);
                Checks.due("front at the first calm tick", x.front(side, 50 * quarters + 23), (side - quarters + 7) % 4);
            }
            Checks.due("front, far turned", told(0, 16, 1, 0).front(side, 9999), (side + 3) % 4);
            Checks.due("front, a half", sets(0, 0, 1).front(side, 69), Checks.NONE);
            Checks.due("front, a failing one", sets(0, 1, 0).front(side, 21), side);
        }
        Checks.due("status(3)", x.status(3), 48);
    }

    private static void tideTold() {
        Checks.says(5, "At which TICK TIDE k (0 to 199) BEGINS (what 0), ENDS (1: as if it were in no SET but LATE).");
        TideQuarter x = told(400, 400, 7, 8);
        Checks.due("tide(0, 0)", x.tide(0, 0), 400);
        Checks.due("tide(0, 1)", x.tide(0, 1), 407);
        Checks.due("tide(199, 0)", x.tide(199, 0), 80000);
        Checks.due("tide(199, 1)", x.tide(199, 1), 80007);
        x.sets(LATE, ALL);
        for (int k : new int[] {0, 1, 28, 29, 30, 31, 32, 33, 61, 62, 63, 64, 65, 96, 199}) {
            int begins = 400 + 400 * k + (k < 30 ? 8 : 0);
            Checks.due("tide(" + k + ", 0), all late", x.tide(k, 0), begins);
            Checks.due("tide(" + k + ", 1), all late", x.tide(k, 1), begins + 7);
        }
        x.sets(LATE, 1 << 29);
        Checks.due("tide(28, 0)", x.tide(28, 0), 11600);
        Checks.due("tide(29, 0), late", x.tide(29, 0), 12008);
        for (int what : new int[] {FAILS, HALVES}) {
            x.sets(what, ALL);
            Checks.due("tide(0, 1), in another set", x.tide(0, 1), 407);
            Checks.due("tide(29, 0), in another set", x.tide(29, 0), 12008);
            Checks.due("tide(29, 1), in another set", x.tide(29, 1), 12015);
            Checks.due("tide(199, 1)", x.tide(199, 1), 80007);
        }
        TideQuarter y = told(0, 16, 1, 0);
        Checks.due("tide(0, 0), the least", y.tide(0, 0), 0);
        Checks.due("tide(0, 1), the least", y.tide(0, 1), 1);
        Checks.due("tide(199, 1), the least", y.tide(199, 1), 3185);
    }

    private static void when() {
        Checks.says(10, "The first TICK from one on (within 960, likewise) at which a FRONT looks to a SIDE. BEYOND. NONE.");
        TideQuarter x = new TideQuarter();
        Checks.due("when(2, 2, 0), at once", x.when(2, 2, 0), 0);
        Checks.due("when(2, 2, 19), at the last calm tick", x.when(2, 2, 19), 19);
        Checks.due("when(2, 2, 20), between", x.when(2, 2, 20), 173);
        Checks.due("when(2, 3, 20), between", x.when(2, 3, 20), 23);
        Checks.due("when(2, 3, 69)", x.when(2, 3, 69), 69);
        Checks.due("when(2, 3, 70)", x.when(2, 3, 70), 223);
        Checks.due("when(3, 0, 9999)", x.when(3, 0, 9999), 10023);
        Checks.due("when(3, 3, 9999), at once", x.when(3, 3, 9999), 9999);
        TideQuarter y = Checks.still();
        Checks.due("when(0, 1, 564), the 960th", y.when(0, 1, 564), 1523);
        Checks.due("when(0, 1, 563), the 961st", y.when(0, 1, 563), Checks.NONE);
        Checks.due("when(0, 0, 563)", y.when(0, 0, 563), 563);
        // tide 27 ends at 10958, with front 0 looking to 0 for the first time from 9999 on
        Checks.due("when(0, 0, 9999), the last of all", told(155, 400, 3, 0).when(0, 0, 9999), 10958);
        Checks.due("when(0, 0, 9999), one too late", told(156, 400, 3, 0).when(0, 0, 9999), Checks.NONE);
        TideQuarter z = sets(0, 0, ALL);
        Checks.due("when(1, 0, 563), between all along", z.when(1, 0, 563), Checks.NONE);
        Checks.due("when(1, 0, 564), set right at the 960th", z.when(1, 0, 564), 1523);
        Checks.due("when(1, 1, 1522)", z.when(1, 1, 1522), 1573);
        Checks.due("status(3)", z.status(3), 1);
    }

    public static void main(String[] args) {
        atFirst();
        become();
        beginsAndEnds();
        inSets();
        halves();
        turnedAndBetween();
        fronts();
        tideTold();
        when();
        Checks.end();
    }
}
