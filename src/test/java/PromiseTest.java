/** For each promise of the document: ordinary calls, its edges, its findings in their order. */
public final class PromiseTest {
    private static final int BEYOND = -1000000001;
    private static final int FULL = -1000000002;
    private static final int KIND = -1000000003;
    private static final int NONE = -1000000004;
    private static final int MISSING = -1000000006;
    private static final int SIZE = -1000000007;
    private static final int ALL = (1 << 30) - 1;
    private static final int[] EXTREMES = {-1, Integer.MIN_VALUE, Integer.MAX_VALUE};

    private static int promise = 0;
    private static int passed = 0;
    private static int failed = 0;
    private static final int[] checks = new int[45];

    private static void due(String call, long got, long want) {
        checks[promise]++;
        if (got == want) {
            passed++;
        } else {
            failed++;
            System.out.println("promise " + promise + ": " + call + " answered " + got + ", due is " + want);
        }
    }

    private static TideQuarter at(int number) {
        promise = number;
        return new TideQuarter();
    }

    /** The answer of island() to a text on a new object. */
    private static void text(String text, long want) {
        TideQuarter x = new TideQuarter();
        Checks.tell(x, text);
        due("island() of '" + text + "'", x.island(), want);
        due("count(3) behind '" + text + "'", x.count(3), 0);
    }

    public static void main(String[] args) {
        newObject();
        tides();
        sets();
        wind();
        tide();
        turned();
        between();
        looks();
        front();
        when();
        house();
        houseOf();
        turn();
        as();
        gain();
        sum();
        best();
        sunniest();
        days();
        exchange();
        ship();
        shipOf();
        quay();
        clear();
        lies();
        entry();
        order();
        waits();
        fast();
        off();
        feed();
        wipe();
        islandWords();
        islandFaults();
        islandState();
        sheet();
        write();
        copy();
        lays();
        calendar();
        read();
        image();
        undo();
        tear();
        count();
        status();
        for (int p = 1; p <= 44; p++) {
            promise = p;
            due("checks of this promise are there", checks[p] > 0 ? 1 : 0, 1);
        }
        System.out.println(passed + " passed, " + failed + " failed");
        if (failed != 0) {
            System.exit(1);
        }
    }

    private static void newObject() {
        TideQuarter x = at(1);
        due("count(0)", x.count(0), 0);
        due("count(1)", x.count(1), 0);
        due("count(2)", x.count(2), 3);
        due("count(3)", x.count(3), 0);
        due("count(4)", x.count(4), 0);
        due("status(-1)", x.status(-1), 0);
        due("tear()", x.tear(), 0);
        due("undo()", x.undo(), NONE);
        due("write(0, 0, 1)", x.write(0, 0, 1), MISSING);
        due("write(3, 0, 1)", x.write(3, 0, 1), MISSING);
        due("tides(0, 0)", x.tides(0, 0), 20);
        due("tides(1, 16)", x.tides(1, 16), 50);
        due("tides(2, 1)", x.tides(2, 1), 3);
        due("tides(3, 1)", x.tides(3, 1), 0);
        due("sets(0, 1)", x.sets(0, 1), 0);
        due("sets(1, 1)", x.sets(1, 1), 0);
        due("sets(2, 1)", x.sets(2, 1), 0);
        TideQuarter y = new TideQuarter();
        due("another's tides(0, 1)", y.tides(0, 1), 20);
        due("another's sets(2, 1)", y.sets(2, 1), 0);
    }

    private static void tides() {
        TideQuarter x = at(2);
        int[] least = {0, 16, 1, 0};
        int[] most = {400, 400, 7, 8};
        int[] first = {20, 50, 3, 0};
        for (int what = 0; what < 4; what++) {
            due("tides(" + what + ", least)", x.tides(what, least[what]), first[what]);
            due("tides(" + what + ", most)", x.tides(what, most[what]), least[what]);
            due("tides(" + what + ", below)", x.tides(what, least[what] - 1), BEYOND);
            due("tides(" + what + ", above)", x.tides(what, most[what] + 1), BEYOND);
            for (int v : EXTREMES) {
                due("tides(" + what + ", " + v + ")", x.tides(what, v), BEYOND);
            }
            due("tides(" + what + ", most) again", x.tides(what, most[what]), most[what]);
        }
        due("tides(-1, 20)", x.tides(-1, 20), BEYOND);
        due("tides(4, 5)", x.tides(4, 5), BEYOND);
        due("tide(0, 0)", x.tide(0, 0), 400);
        due("tide(1, 0)", x.tide(1, 0), 800);
        due("tide(1, 1)", x.tide(1, 1), 807);
    }

    private static void sets() {
        TideQuarter x = at(3);
        for (int what = 0; what < 3; what++) {
            due("sets(" + what + ", 5)", x.sets(what, 5), 0);
            due("sets(" + what + ", all)", x.sets(what, ALL), 5);
            due("sets(" + what + ", bit 30)", x.sets(what, 1 << 30), BEYOND);
            due("sets(" + what + ", bit 31)", x.sets(what, 1 << 31), BEYOND);
            due("sets(" + what + ", -1)", x.sets(what, -1), BEYOND);
            due("sets(" + what + ", 0)", x.sets(what, 0), ALL);
            due("sets(" + what + ", 0) again", x.sets(what, 0), 0);
        }
        due("sets(3, 0)", x.sets(3, 0), BEYOND);
        due("sets(-1, 0)", x.sets(-1, 0), BEYOND);
    }

    private static void wind() {
        TideQuarter x = at(4);
        due("wind(2, 9)", x.wind(2, 9), 3);
        due("wind(3, 0)", x.wind(3, 0), 9);
        due("wind(4, 0)", x.wind(4, 0), BEYOND);
        due("wind(-1, 0)", x.wind(-1, 0), BEYOND);
        due("wind(0, 10)", x.wind(0, 10), BEYOND);
        due("wind(0, -1)", x.wind(0, -1), BEYOND);
        due("count(4)", x.count(4), 3);
        due("count(2)", x.count(2), 0);
    }

    private static void tide() {
        TideQuarter x = at(5);
        due("tide(0, 0)", x.tide(0, 0), 20);
        due("tide(0, 1)", x.tide(0, 1), 23);
        due("tide(199, 0)", x.tide(199, 0), 9970);
        due("tide(199, 1)", x.tide(199, 1), 9973);
        due("tide(200, 0)", x.tide(200, 0), BEYOND);
        due("tide(-1, 0)", x.tide(-1, 0), BEYOND);
        due("tide(0, 2)", x.tide(0, 2), BEYOND);
        due("tide(0, -1)", x.tide(0, -1), BEYOND);
        x.tides(3, 8);
        x.sets(0, ALL);
        x.sets(1, 2);
        x.sets(2, 4);
        due("tide(1, 0) late", x.tide(1, 0), 78);
        due("tide(1, 1) late and failing", x.tide(1, 1), 81);
        due("tide(2, 1) late and half", x.tide(2, 1), 131);
        due("tide(29, 0)", x.tide(29, 0), 20 + 29 * 50 + 8);
        due("tide(30, 0)", x.tide(30, 0), 20 + 30 * 50);
        due("tide(32, 0)", x.tide(32, 0), 20 + 32 * 50);
        due("tide(63, 0)", x.tide(63, 0), 20 + 63 * 50);
    }

    private static void turned() {
        TideQuarter x = at(6);
        due("turned(0)", x.turned(0), 0);
        due("turned(22)", x.turned(22), 0);
        due("turned(23)", x.turned(23), 1);
        due("turned(72)", x.turned(72), 1);
        due("turned(73)", x.turned(73), 2);
        due("turned(9999)", x.turned(9999), 200);
        due("turned(-1)", x.turned(-1), BEYOND);
        due("turned(10000)", x.turned(10000), BEYOND);
        // halves 0, 1, 3; fails 1, 2: tide 4 sets 0 and 3 right
        x.sets(2, 11);
        x.sets(1, 6);
        due("turned(222)", x.turned(222), 0);
        due("turned(223)", x.turned(223), 3);
        due("turned(273)", x.turned(273), 4);
        x.sets(2, 1 << 29);
        x.sets(1, ALL - (1 << 29));
        due("turned(1522), 29 half", x.turned(1522), 0);
        due("turned(1523), 29 half", x.turned(1523), 2);
        x.tides(3, 8);
        x.sets(2, 0);
        x.sets(1, 0);
        x.sets(0, 1);
        due("turned(30) late", x.turned(30), 0);
        due("turned(31) late", x.turned(31), 1);
    }

    private static void between() {
        TideQuarter x = at(7);
        due("between(0)", x.between(0), 0);
        due("between(19)", x.between(19), 0);
        due("between(20)", x.between(20), 1);
        due("between(22)", x.between(22), 1);
        due("between(23)", x.between(23), 0);
        due("between(-1)", x.between(-1), BEYOND);
        due("between(10000)", x.between(10000), BEYOND);
        x.sets(1, 2);
        due("between(70) failing", x.between(70), 0);
        x.sets(2, 6);
        due("between(72), half but failing", x.between(72), 0);
        due("between(119)", x.between(119), 0);
        due("between(120) half", x.between(120), 1);
        due("between(169) half stays", x.between(169), 1);
        due("between(172) half stays", x.between(172), 1);
        due("between(173) set right", x.between(173), 0);
        x.sets(1, 8);
        due("between(173), the next fails", x.between(173), 1);
        due("between(222)", x.between(222), 1);
        due("between(223)", x.between(223), 0);
        x.sets(1, 0);
        x.sets(2, 0);
        x.tides(3, 4);
        x.sets(0, 1);
        due("between(23) late", x.between(23), 0);
        due("between(24) late", x.between(24), 1);
        due("between(26) late", x.between(26), 1);
        due("between(27) late", x.between(27), 0);
    }

    private static void looks() {
        TideQuarter x = at(8);
        for (int f = 0; f < 4; f++) {
            due("looks(" + f + ", 0)", x.looks(f, 0), f);
            due("looks(" + f + ", 21)", x.looks(f, 21), -1);
            due("looks(" + f + ", 23)", x.looks(f, 23), (f + 1) % 4);
            due("looks(" + f + ", 173)", x.looks(f, 173), f);
            due("looks(" + f + ", 9999)", x.looks(f, 9999), f);
        }
        due("looks(4, 0)", x.looks(4, 0), BEYOND);
        due("looks(-1, 0)", x.looks(-1, 0), BEYOND);
        due("looks(0, -1)", x.looks(0, -1), BEYOND);
        due("looks(0, 10000)", x.looks(0, 10000), BEYOND);
    }

    private static void front() {
        TideQuarter x = at(9);
        for (int s = 0; s < 4; s++) {
            due("front(" + s + ", 19)", x.front(s, 19), s);
            due("front(" + s + ", 20)", x.front(s, 20), NONE);
            due("front(" + s + ", 23)", x.front(s, 23), (s + 3) % 4);
        }
        due("front(4, 21)", x.front(4, 21), BEYOND);
        due("front(-1, 21)", x.front(-1, 21), BEYOND);
        due("front(0, 10000)", x.front(0, 10000), BEYOND);
        due("front(0, -1)", x.front(0, -1), BEYOND);
        due("status(3)", x.status(3), 4);
    }

    private static void when() {
        TideQuarter x = at(10);
        due("when(0, 0, 0)", x.when(0, 0, 0), 0);
        due("when(0, 0, 19)", x.when(0, 0, 19), 19);
        due("when(0, 0, 20)", x.when(0, 0, 20), 173);
        due("when(0, 1, 0)", x.when(0, 1, 0), 23);
        due("when(3, 2, 9999)", x.when(3, 2, 9999), 9999 + 74 + 50);
        due("when(4, 0, 0)", x.when(4, 0, 0), BEYOND);
        due("when(0, 4, 0)", x.when(0, 4, 0), BEYOND);
        due("when(0, -1, 0)", x.when(0, -1, 0), BEYOND);
        due("when(0, 0, 10000)", x.when(0, 0, 10000), BEYOND);
        x.sets(1, ALL);
        // tide 30 ends at 1523: the 960th tick from 564 on
        due("when(0, 1, 564)", x.when(0, 1, 564), 1523);
        due("when(0, 1, 563)", x.when(0, 1, 563), NONE);
    }

    private static void house() {
        TideQuarter x = at(11);
        due("house(6, 0)", x.house(6, 0), BEYOND);
        due("house(-1, 0)", x.house(-1, 0), BEYOND);
        due("house(0, 4)", x.house(0, 4), BEYOND);
        due("house(0, -1)", x.house(0, -1), BEYOND);
        for (int h = 0; h < 8; h++) {
            due("house()", x.house(h % 6, h % 4), h);
        }
        due("house(0, 0), a 9th", x.house(0, 0), FULL);
        due("house(6, 0), a 9th", x.house(6, 0), BEYOND);
        due("house(0, 4), a 9th", x.house(0, 4), BEYOND);
        due("count(0)", x.count(0), 8);
    }

    private static void houseOf() {
        TideQuarter x = at(12);
        due("houseOf(0, 0), none there", x.houseOf(0, 0), BEYOND);
        x.house(5, 2);
        x.house(1, 3);
        due("houseOf(0, 0)", x.houseOf(0, 0), 5);
        due("houseOf(0, 1)", x.houseOf(0, 1), 2);
        due("houseOf(1, 0)", x.houseOf(1, 0), 1);
        due("houseOf(1, 1)", x.houseOf(1, 1), 3);
        due("houseOf(2, 0)", x.houseOf(2, 0), BEYOND);
        due("houseOf(-1, 0)", x.houseOf(-1, 0), BEYOND);
        due("houseOf(0, 2)", x.houseOf(0, 2), BEYOND);
        due("houseOf(0, -1)", x.houseOf(0, -1), BEYOND);
    }

    private static void turn() {
        TideQuarter x = at(13);
        x.house(5, 2);
        due("turn(0, 3)", x.turn(0, 3), 2);
        due("turn(0, 0)", x.turn(0, 0), 3);
        due("turn(0, 4)", x.turn(0, 4), BEYOND);
        due("turn(0, -1)", x.turn(0, -1), BEYOND);
        due("turn(1, 0)", x.turn(1, 0), BEYOND);
        due("turn(-1, 0)", x.turn(-1, 0), BEYOND);
        due("houseOf(0, 1)", x.houseOf(0, 1), 0);
        due("houseOf(0, 0)", x.houseOf(0, 0), 5);
    }

    private static void as() {
        TideQuarter x = at(14);
        boolean[][] under = {
            {true, false, false, false, false, false},
            {true, true, false, false, false, false},
            {true, false, true, false, false, false},
            {true, false, false, true, false, false},
            {true, true, false, false, true, false},
            {true, false, false, true, false, true},
        };
        for (int h = 0; h < 6; h++) {
            x.house(h, h % 4);
        }
        for (int h = 0; h < 6; h++) {
            for (int kind = 0; kind < 6; kind++) {
                due("as(" + h + ", " + kind + ")", x.as(h, kind), under[h][kind] ? h % 4 : KIND);
            }
        }
        due("as(0, 6)", x.as(0, 6), BEYOND);
        due("as(0, -1)", x.as(0, -1), BEYOND);
        due("as(6, 0)", x.as(6, 0), BEYOND);
        due("as(-1, 0)", x.as(-1, 0), BEYOND);
        due("status(2)", x.status(2), 23);
    }

    private static void gain() {
        TideQuarter x = at(15);
        x.sets(1, ALL);
        for (int kind = 0; kind < 6; kind++) {
            for (int f = 0; f < 4; f++) {
                if (x.count(0) == 8) {
                    x = at(15);
                    x.sets(1, ALL);
                }
                int h = x.house(kind, f);
                for (int hour = 0; hour < 24; hour++) {
                    due("gain, kind " + kind + ", side " + f + ", hour " + hour,
                        x.gain(h, hour * 4 + hour % 4), gainOf(kind, f, hour));
                }
            }
        }
        x = at(15);
        x.house(1, 3);
        x.house(4, 3);
        x.house(2, 3);
        due("gain(0, 10)", x.gain(0, 10), 0);
        x.wind(3, 7);
        due("gain(0, 10), wind west", x.gain(0, 10), 2);
        due("gain(1, 10), wind west", x.gain(1, 10), 14);
        due("gain(1, 21), between", x.gain(1, 21), 0);
        due("gain(2, 21), between", x.gain(2, 21), 1);
        due("gain(0, 23), turned", x.gain(0, 23), 0);
        due("gain(1, 179), turned round", x.gain(1, 179), 14);
        due("gain(3, 0)", x.gain(3, 0), BEYOND);
        due("gain(-1, 0)", x.gain(-1, 0), BEYOND);
        due("gain(0, 10000)", x.gain(0, 10000), BEYOND);
        due("gain(0, -1)", x.gain(0, -1), BEYOND);
    }

    /** With wind from north of force 3. */
    private static int gainOf(int kind, int side, int hour) {
        int[] from = {99, 6, 9, 12};
        int[] to = {0, 11, 15, 18};
        int sun = hour >= from[side] && hour <= to[side] ? 1 : 0;
        int inn = sun == 1 && hour >= 12 ? 2 : sun;
        int mill = side == 0 ? 2 : 0;
        int[] all = {sun, mill, 1 - sun, inn, 3 * mill, hour < 9 ? 3 * inn : 0};
        return all[kind];
    }

    private static void sum() {
        TideQuarter x = at(16);
        x.house(0, 0);
        x.house(2, 1);
        x.house(3, 2);
        x.house(1, 0);
        due("sum(0, 0, 96)", x.sum(0, 0, 96), 24);
        due("sum(1, 0, 96)", x.sum(1, 0, 96), 65);
        due("sum(2, 0, 960)", x.sum(2, 0, 960), 321);
        due("sum(3, 0, 23)", x.sum(3, 0, 23), 40);
        due("sum(3, 0, 1)", x.sum(3, 0, 1), 2);
        due("sum(3, 20, 1)", x.sum(3, 20, 1), 0);
        due("sum(1, 9999, 960)", x.sum(1, 9999, 960), 756);
        due("sum(0, 0, 0)", x.sum(0, 0, 0), BEYOND);
        due("sum(0, 0, 961)", x.sum(0, 0, 961), BEYOND);
        due("sum(0, 0, -1)", x.sum(0, 0, -1), BEYOND);
        due("sum(4, 0, 1)", x.sum(4, 0, 1), BEYOND);
        due("sum(-1, 0, 1)", x.sum(-1, 0, 1), BEYOND);
        due("sum(0, -1, 1)", x.sum(0, -1, 1), BEYOND);
        due("sum(0, 10000, 1)", x.sum(0, 10000, 1), BEYOND);
    }

    private static void best() {
        TideQuarter x = at(17);
        x.house(0, 0);
        x.house(5, 0);
        x.house(1, 3);
        due("best(0, 0, 96)", x.best(0, 0, 96), 1);
        due("best(1, 24, 20)", x.best(1, 24, 20), 0);
        due("best(2, 0, 10)", x.best(2, 0, 10), 0);
        due("best(2, 23, 10)", x.best(2, 23, 10), 3);
        due("best(0, 0, 10), all alike", x.best(0, 0, 10), 0);
        due("best(2, 20, 3), between", x.best(2, 20, 3), 0);
        TideQuarter y = at(17);
        y.sets(1, ALL);
        y.house(3, 3);
        due("best(0, 24, 24), 24 12 0 from east on", y.best(0, 24, 24), 1);
        due("best(0, 24, 36), 24 36 24", y.best(0, 24, 36), 2);
        due("best(0, 36, 28), 12 44 32", y.best(0, 36, 28), 2);
        due("best(0, 24, 60), 24 44 56", y.best(0, 24, 60), 3);
        due("houseOf(0, 1)", x.houseOf(0, 1), 0);
        due("best(3, 0, 1)", x.best(3, 0, 1), BEYOND);
        due("best(-1, 0, 1)", x.best(-1, 0, 1), BEYOND);
        due("best(0, -1, 1)", x.best(0, -1, 1), BEYOND);
        due("best(0, 10000, 1)", x.best(0, 10000, 1), BEYOND);
        due("best(0, 0, 0)", x.best(0, 0, 0), BEYOND);
        due("best(0, 0, 961)", x.best(0, 0, 961), BEYOND);
    }

    private static void sunniest() {
        TideQuarter x = at(18);
        due("sunniest(0, 1)", x.sunniest(0, 1), NONE);
        due("sunniest(0, 960)", x.sunniest(0, 960), NONE);
        due("sunniest(0, 0)", x.sunniest(0, 0), BEYOND);
        due("sunniest(0, 961)", x.sunniest(0, 961), BEYOND);
        due("sunniest(-1, 1)", x.sunniest(-1, 1), BEYOND);
        due("sunniest(10000, 1)", x.sunniest(10000, 1), BEYOND);
        x.house(0, 0);
        x.house(0, 0);
        due("sunniest(0, 1), alike", x.sunniest(0, 1), 0);
        x.house(2, 0);
        x.house(2, 0);
        due("sunniest(0, 1), sheds", x.sunniest(0, 1), 2);
        x.house(1, 0);
        due("sunniest(0, 1), a mill", x.sunniest(0, 1), 4);
        x.house(2, 0);
        due("sunniest(0, 1), less behind", x.sunniest(0, 1), 4);
        due("sunniest(23, 1), no wind", x.sunniest(23, 1), 2);
        due("sunniest(0, 0)", x.sunniest(0, 0), BEYOND);
    }

    private static void days() {
        TideQuarter x = at(19);
        x.house(0, 0);
        due("days(0, 1, 6, 100)", x.days(0, 1, 6, 100), 6);
        due("days(0, 1, 6, 96)", x.days(0, 1, 6, 96), 6);
        due("days(0, 1, 6, 191)", x.days(0, 1, 6, 191), 6);
        due("days(0, 0, 23, 9999)", x.days(0, 0, 23, 9999), 7);
        x.sets(1, ALL);
        x.tides(1, 400);
        due("days(0, 0, 0, 0)", x.days(0, 0, 0, 0), 30);
        due("days(0, 1, 0, 0)", x.days(0, 1, 0, 0), 0);
        x.turn(0, 1);
        due("days(0, 1, 23, 0)", x.days(0, 1, 23, 0), 30);
        x.turn(0, 0);
        // from day 104 on: tide 30 ends at 12023, in the last tick of hour 5 of day 125,
        // whose other three are between; tide 31 begins in hour 9 of day 129
        due("days(0, 1, 5, 9999)", x.days(0, 1, 5, 9999), 5);
        due("days(0, 1, 4, 9999)", x.days(0, 1, 4, 9999), 4);
        due("days(0, 0, 5, 9999)", x.days(0, 0, 5, 9999), 21);
        // tide 30 ends at 12017 in the second tick of hour 4, tide 0 of another begins there
        x.tides(0, 14);
        due("days(0, 1, 4, 9999)", x.days(0, 1, 4, 9999), 5);
        due("days(0, 0, 3, 9999)", x.days(0, 0, 3, 9999), 22);
        due("days(0, 0, 4, 9999)", x.days(0, 0, 4, 9999), 21);
        x.tides(0, 19);
        due("days(0, 0, 4, 9999), three of its ticks", x.days(0, 0, 4, 9999), 22);
        x.tides(0, 17);
        due("days(0, 0, 4, 9999), one of its ticks", x.days(0, 0, 4, 9999), 22);
        due("days(0, 1, 5, 9999), its first tick too", x.days(0, 1, 5, 9999), 5);
        due("days(1, 0, 0, 0)", x.days(1, 0, 0, 0), BEYOND);
        due("days(-1, 0, 0, 0)", x.days(-1, 0, 0, 0), BEYOND);
        due("days(0, 4, 0, 0)", x.days(0, 4, 0, 0), BEYOND);
        due("days(0, -1, 0, 0)", x.days(0, -1, 0, 0), BEYOND);
        due("days(0, 0, 24, 0)", x.days(0, 0, 24, 0), BEYOND);
        due("days(0, 0, -1, 0)", x.days(0, 0, -1, 0), BEYOND);
        due("days(0, 0, 0, 10000)", x.days(0, 0, 0, 10000), BEYOND);
        due("days(0, 0, 0, -1)", x.days(0, 0, 0, -1), BEYOND);
    }

    private static void exchange() {
        TideQuarter x = at(20);
        x.sets(1, ALL);
        due("exchange(0, 96), no houses", x.exchange(0, 96), NONE);
        x.house(1, 1);
        due("exchange(0, 96), one house", x.exchange(0, 96), NONE);
        x.house(1, 0);
        due("exchange(0, 96), one would have less", x.exchange(0, 96), NONE);
        x.house(0, 0);
        // mill 0 looks east and would have wind; house 2 looks north and would have sun
        due("exchange(0, 96)", x.exchange(0, 96), 2);
        due("exchange(0, 20), no sun, but the wind", x.exchange(0, 20), 2);
        x.house(0, 0);
        due("exchange(0, 96), of two the least", x.exchange(0, 96), 2);
        x.house(4, 2);
        due("exchange(0, 96), sails have more", x.exchange(0, 96), 24);
        due("houseOf(4, 1)", x.houseOf(4, 1), 2);
        due("exchange(0, 0)", x.exchange(0, 0), BEYOND);
        due("exchange(0, 961)", x.exchange(0, 961), BEYOND);
        due("exchange(-1, 1)", x.exchange(-1, 1), BEYOND);
        due("exchange(10000, 1)", x.exchange(10000, 1), BEYOND);
        x = at(20);
        x.sets(1, ALL);
        x.house(0, 0);
        x.house(1, 1);
        x.wind(3, 1);
        due("exchange(24, 1), one more, the other as now", x.exchange(24, 1), 1);
        x.turn(0, 1);
        x.turn(1, 0);
        due("exchange(24, 1), one less, the other as now", x.exchange(24, 1), NONE);
        x.wind(1, 1);
        due("exchange(24, 1), two more, one less", x.exchange(24, 1), NONE);
        x.turn(0, 0);
        x.turn(1, 1);
        due("exchange(24, 1), one more, two less", x.exchange(24, 1), NONE);
        x.wind(0, 1);
        due("exchange(24, 1), both more", x.exchange(24, 1), 1);
        x = at(20);
        x.sets(1, ALL);
        x.wind(2, 1);
        for (int h = 0; h < 7; h++) {
            x.house(2, 0);
        }
        x.house(1, 1);
        due("exchange(24, 1), sheds don't mind, none has wind", x.exchange(24, 1), NONE);
        x.turn(6, 2);
        due("exchange(24, 1), the seventh has the mill's wind", x.exchange(24, 2), NONE);
        due("exchange(0, 1), by night", x.exchange(0, 1), 67);
        // together more, but the inn less: a house in the north, an inn in the west
        TideQuarter y = at(20);
        y.sets(1, ALL);
        y.wind(1, 9);
        y.house(4, 0);
        y.house(0, 1);
        due("exchange(0, 96), together more, one less", y.exchange(0, 96), NONE);
    }

    private static void ship() {
        TideQuarter x = at(21);
        due("ship(4, 0, 1)", x.ship(4, 0, 1), BEYOND);
        due("ship(-1, 0, 1)", x.ship(-1, 0, 1), BEYOND);
        due("ship(0, -1, 1)", x.ship(0, -1, 1), BEYOND);
        due("ship(0, 10000, 1)", x.ship(0, 10000, 1), BEYOND);
        due("ship(0, 0, 0)", x.ship(0, 0, 0), BEYOND);
        due("ship(0, 0, 41)", x.ship(0, 0, 41), BEYOND);
        for (int i = 0; i < 6; i++) {
            due("ship()", x.ship(i % 4, i == 5 ? 9999 : i, i == 5 ? 40 : 1), i);
        }
        due("ship(0, 0, 1), a 7th", x.ship(0, 0, 1), FULL);
        due("ship(0, 0, 41), a 7th", x.ship(0, 0, 41), BEYOND);
        due("count(1)", x.count(1), 6);
        x.clear();
        due("ship(0, 0, 1), all gone", x.ship(0, 0, 1), 0);
        x.quay(0, 2);
        x.clear();
        x.ship(0, 0, 1);
        due("shipOf(0, 3), new", x.shipOf(0, 3), -1);
    }

    private static void shipOf() {
        TideQuarter x = at(22);
        due("shipOf(0, 0), none there", x.shipOf(0, 0), BEYOND);
        x.ship(3, 9999, 40);
        x.ship(1, 7, 2);
        x.quay(1, 2);
        int[] first = {3, 9999, 40, -1};
        int[] second = {1, 7, 2, 2};
        for (int what = 0; what < 4; what++) {
            due("shipOf(0, " + what + ")", x.shipOf(0, what), first[what]);
            due("shipOf(1, " + what + ")", x.shipOf(1, what), second[what]);
        }
        due("shipOf(2, 0)", x.shipOf(2, 0), BEYOND);
        due("shipOf(-1, 0)", x.shipOf(-1, 0), BEYOND);
        due("shipOf(0, 4)", x.shipOf(0, 4), BEYOND);
        due("shipOf(0, -1)", x.shipOf(0, -1), BEYOND);
    }

    private static void quay() {
        TideQuarter x = at(23);
        due("quay(0, 0), none there", x.quay(0, 0), BEYOND);
        x.ship(0, 0, 1);
        due("quay(0, 3)", x.quay(0, 3), -1);
        due("quay(0, 4)", x.quay(0, 4), BEYOND);
        due("quay(0, -2)", x.quay(0, -2), BEYOND);
        due("quay(0, -1)", x.quay(0, -1), 3);
        due("quay(0, 0)", x.quay(0, 0), -1);
        due("quay(1, 0)", x.quay(1, 0), BEYOND);
        due("quay(-1, 0)", x.quay(-1, 0), BEYOND);
    }

    private static void clear() {
        TideQuarter x = at(24);
        due("clear()", x.clear(), 0);
        x.ship(0, 0, 1);
        x.ship(0, 0, 1);
        x.house(0, 0);
        due("clear(), two", x.clear(), 2);
        due("clear() again", x.clear(), 0);
        due("shipOf(0, 0)", x.shipOf(0, 0), BEYOND);
        due("count(0)", x.count(0), 1);
    }

    private static void lies() {
        TideQuarter x = at(25);
        x.ship(1, 500, 20);
        due("lies(0, 1, 0)", x.lies(0, 1, 0), 1);
        due("lies(0, 0, 0)", x.lies(0, 0, 0), 0);
        due("lies(0, 1, 1)", x.lies(0, 1, 1), 0);
        due("lies(0, 0, 23)", x.lies(0, 0, 23), 1);
        due("lies(0, 0, 50)", x.lies(0, 0, 50), 1);
        due("lies(0, 0, 51)", x.lies(0, 0, 51), 0);
        due("lies(0, 0, 21)", x.lies(0, 0, 21), 0);
        x.quay(0, 3);
        due("lies(0, 1, 0), another quay told", x.lies(0, 1, 0), 1);
        x.sets(1, 1);
        due("lies(0, 1, 1), the tide fails", x.lies(0, 1, 1), 1);
        due("lies(1, 0, 0)", x.lies(1, 0, 0), BEYOND);
        due("lies(-1, 0, 0)", x.lies(-1, 0, 0), BEYOND);
        due("lies(0, 4, 0)", x.lies(0, 4, 0), BEYOND);
        due("lies(0, -1, 0)", x.lies(0, -1, 0), BEYOND);
        due("lies(0, 0, -1)", x.lies(0, 0, -1), BEYOND);
        due("lies(0, 0, 10000)", x.lies(0, 0, 10000), BEYOND);
    }

    private static void entry() {
        TideQuarter x = at(26);
        due("entry(0, 0), none there", x.entry(0, 0), BEYOND);
        x.ship(1, 10, 5);
        due("entry(0, 0)", x.entry(0, 0), 10);
        due("entry(0, 1)", x.entry(0, 1), 1);
        x.ship(1, 12, 30);
        due("entry(1, 0)", x.entry(1, 0), 23);
        due("entry(1, 1)", x.entry(1, 1), 0);
        x.quay(1, 2);
        due("entry(1, 0), quay 2", x.entry(1, 0), 123);
        due("entry(1, 1), quay 2", x.entry(1, 1), 2);
        x.ship(0, 21, 40);
        due("entry(2, 0)", x.entry(2, 0), 23);
        due("entry(2, 1)", x.entry(2, 1), 3);
        x.ship(2, 9999, 40);
        due("entry(3, 0)", x.entry(3, 0), 10023);
        due("entry(3, 0) what 2", x.entry(3, 2), BEYOND);
        due("entry(3, 0) what -1", x.entry(3, -1), BEYOND);
        due("entry(4, 0)", x.entry(4, 0), BEYOND);
        due("entry(-1, 0)", x.entry(-1, 0), BEYOND);
        x.clear();
        x.ship(1, 15, 5);
        due("entry, a calm just as long", x.entry(0, 0), 15);
        x.ship(1, 15, 6);
        due("entry, a calm too short", x.entry(1, 0), 23);
        x.tides(1, 43);
        x.ship(1, 15, 40);
        due("entry, calms just as long", x.entry(2, 0), 23);
        x.tides(1, 42);
        due("entry, no calm so long", x.entry(2, 0), NONE);
        x.tides(1, 50);
        // all tides fail but 30, which ends at 1523
        x.clear();
        x.sets(1, ALL);
        x.ship(1, 564, 1);
        x.quay(0, 0);
        due("entry at the last tick", x.entry(0, 0), 1523);
        x.ship(1, 563, 1);
        x.quay(1, 0);
        due("entry one tick too late", x.entry(1, 0), NONE);
        due("entry one tick too late, front", x.entry(1, 1), NONE);
        due("lasts through failing tides", x.quay(1, -1), 0);
        due("entry(1, 0)", x.entry(1, 0), 563);
    }

    private static void order() {
        TideQuarter x = at(27);
        due("order(-1)", x.order(-1), 0);
        due("order(0)", x.order(0), NONE);
        due("order(5)", x.order(5), NONE);
        due("order(6)", x.order(6), BEYOND);
        due("order(-2)", x.order(-2), BEYOND);
        x.tides(0, 5);
        x.ship(0, 0, 5);
        due("order(-1), goes in at once", x.order(-1), 0);
        x.tides(0, 4);
        due("order(-1), an earlier flood", x.order(-1), 7);
        x.tides(2, 5);
        due("order(-1), a longer flood", x.order(-1), 9);
        x.sets(0, 1);
        due("order(-1), no lag", x.order(-1), 9);
        x.tides(3, 1);
        due("order(-1), a lag", x.order(-1), 0);
        x.sets(0, 0);
        due("order(-1), no longer late", x.order(-1), 9);
        x.clear();
        // one front, no turning: the short one goes ahead
        x.sets(1, ALL);
        x.ship(0, 0, 40);
        x.ship(0, 0, 10);
        due("order(-1), short first", x.order(-1), 10);
        due("order(0)", x.order(0), 1);
        due("order(1)", x.order(1), 0);
        due("order(2)", x.order(2), NONE);
        x.ship(1, 0, 5);
        due("order(-1), another side", x.order(-1), 10);
        due("order(0)", x.order(0), 1);
        due("order(1)", x.order(1), 0);
        due("order(2)", x.order(2), 2);
        x.ship(0, 0, 10);
        due("order(-1), of several the first", x.order(-1), 30);
        due("order(0)", x.order(0), 1);
        due("order(1)", x.order(1), 2);
        due("order(2)", x.order(2), 3);
        due("order(3)", x.order(3), 0);
        x.quay(0, 1);
        due("order(-1), one never", x.order(-1), 960 + 10);
        due("order(0)", x.order(0), 0);
        due("order(1)", x.order(1), 1);
        x.tides(0, 0);
        x.tides(2, 7);
        x.sets(2, ALL);
        x.sets(1, 0);
        due("order(-1), all never", x.order(-1), 4 * 960);
        due("order(3)", x.order(3), 3);
        x.sets(2, 0);
        x.tides(1, 16);
        // calm is 9 ticks long: 40 and 10 never fit, 5 does, at 7 at front 0
        due("order(-1), too short", x.order(-1), 3 * 960 + 7);
        x.clear();
        due("order(-1), cleared", x.order(-1), 0);
        x.sets(1, ALL);
        x.ship(0, 0, 4);
        x.ship(0, 4, 4);
        x.ship(0, 8, 4);
        due("order(-1), one goes as another comes", x.order(-1), 0);
        x.ship(0, 7, 1);
        due("order(-1), and one in the last tick of another", x.order(-1), 2);
        due("order(3)", x.order(3), 2);
        x.clear();
        for (int i = 0; i < 6; i++) {
            x.ship(i % 2, 0, 40);
            x.quay(i, 2);
        }
        due("order(-1), six never", x.order(-1), 6 * 960);
        due("order(5), six never", x.order(5), 5);
        due("waits(5, 1), six never", x.waits(5, 1), -1);
        x.clear();
        // a ship that comes later may go in ahead in the order
        x.ship(0, 0, 30);
        x.ship(0, 5, 5);
        x.ship(0, 8, 5);
        due("order(-1), wait for later ones", x.order(-1), 2 + 15);
        due("order(0)", x.order(0), 1);
        due("order(1)", x.order(1), 2);
        due("order(2)", x.order(2), 0);
    }

    private static void waits() {
        TideQuarter x = at(28);
        due("waits(0, 0), none there", x.waits(0, 0), BEYOND);
        x.sets(1, ALL);
        x.ship(0, 0, 40);
        x.ship(0, 0, 10);
        x.ship(2, 0, 10);
        x.ship(2, 0, 10);
        x.quay(3, 1);
        int[] wait = {10, 0, 0, 960};
        int[] front = {0, 0, 2, -1};
        for (int i = 0; i < 4; i++) {
            due("waits(" + i + ", 0)", x.waits(i, 0), wait[i]);
            due("waits(" + i + ", 1)", x.waits(i, 1), front[i]);
        }
        due("waits(4, 0)", x.waits(4, 0), BEYOND);
        due("waits(-1, 0)", x.waits(-1, 0), BEYOND);
        due("waits(0, 2)", x.waits(0, 2), BEYOND);
        due("waits(0, -1)", x.waits(0, -1), BEYOND);
        due("status(-1)", x.status(-1), 5);
        x.image();
        x.sets(1, 0);
        due("waits(0, 0), tides", x.waits(0, 0), 23);
        due("waits(0, 1), tides", x.waits(0, 1), 3);
        x.undo();
        due("waits(0, 0), undone", x.waits(0, 0), 10);
        Checks.tell(x, "ship 0 comes 0 stays 1");
        x.island();
        due("waits(0, 0), told another", x.waits(0, 0), 11);
        x.tides(0, 30);
        due("waits(0, 0), all fail", x.waits(0, 0), 11);
        x.quay(4, 1);
        due("waits(0, 0), another quay", x.waits(0, 0), 10);
    }

    private static void fast() {
        TideQuarter x = at(29);
        due("fast(0)", x.fast(0), 20);
        due("fast(19)", x.fast(19), 1);
        due("fast(20)", x.fast(20), 0);
        due("fast(22)", x.fast(22), 0);
        due("fast(23)", x.fast(23), 47);
        due("fast(9999)", x.fast(9999), 21);
        due("fast(-1)", x.fast(-1), BEYOND);
        due("fast(10000)", x.fast(10000), BEYOND);
        x.sets(1, ALL);
        due("fast(0), all fail", x.fast(0), 960);
        due("fast(559), all fail", x.fast(559), 960);
        due("fast(560), all fail", x.fast(560), 960);
        due("fast(561), all fail", x.fast(561), 959);
    }

    private static void off() {
        TideQuarter x = at(30);
        due("off(0, 20)", x.off(0, 20), 0);
        due("off(0, 21)", x.off(0, 21), 1);
        due("off(0, 100)", x.off(0, 100), 6);
        due("off(22, 1)", x.off(22, 1), 1);
        due("off(9999, 960)", x.off(9999, 960), 57);
        due("off(0, 0)", x.off(0, 0), BEYOND);
        due("off(0, 961)", x.off(0, 961), BEYOND);
        due("off(-1, 1)", x.off(-1, 1), BEYOND);
        due("off(10000, 1)", x.off(10000, 1), BEYOND);
        x.sets(2, ALL);
        due("off(20, 960), all half", x.off(20, 960), 960);
        due("off(1520, 10)", x.off(1520, 10), 3);
    }

    private static void feed() {
        TideQuarter x = at(31);
        due("feed(0, 0)", x.feed(0, 0), BEYOND);
        due("feed(0, 5)", x.feed(0, 5), BEYOND);
        due("feed(0, -1)", x.feed(0, -1), BEYOND);
        for (int i = 1; i <= 29; i++) {
            due("feed(0, 4)", x.feed(0x20202020, 4), 4 * i);
        }
        due("feed(0, 3)", x.feed(0x202020, 3), 119);
        due("feed(0, 2), too many", x.feed(0x2020, 2), FULL);
        due("feed(0, 5), too many", x.feed(0x2020, 5), BEYOND);
        due("count(3)", x.count(3), 119);
        due("feed(0, 1)", x.feed(0x20, 1), 120);
        due("feed(0, 1), too many", x.feed(0x20, 1), FULL);
        x.wipe();
        // 'm', 'ill', ' 2' with other bytes above, that are left out
        x.feed(0x7a7a7a6d, 1);
        x.feed(0xff696c6c, 3);
        x.feed(0x12342032, 2);
        due("island()", x.island(), 1);
        due("houseOf(0, 0)", x.houseOf(0, 0), 1);
        due("houseOf(0, 1)", x.houseOf(0, 1), 2);
        x.feed(0xe1626364, 4);
        due("island(), a high byte", x.island(), -1);
    }

    private static void wipe() {
        TideQuarter x = at(32);
        due("wipe()", x.wipe(), 0);
        Checks.tell(x, "abc");
        due("wipe(), three", x.wipe(), 3);
        due("count(3)", x.count(3), 0);
        Checks.tell(x, "mill 2");
        due("island()", x.island(), 1);
        due("wipe(), none again", x.wipe(), 0);
    }

    private static void islandWords() {
        promise = 33;
        text("flood 0", 1);
        text("flood 400", 1);
        text("flood 20 period 16", 1);
        text("flood 20 length 7", 1);
        text("flood20period400length1", 1);
        text("  flood  007  ;  mill 3  ", 2);
        text("late 0", 1);
        text("late 0 1 2 3 4 29;fails 29;halves 3 5", 3);
        text("house 0;mill 1;shed 2;inn 3;sails 0;dorm 1", 6);
        text("ship 3 comes 9999 stays 40", 1);
        text("ship 0 comes 0 stays 1 quay 3", 1);
        text("wind 3 9;wind 0 0", 2);
        text("house 0;house 0;house 0;house 0;house 0;house 0;house 0;house 0", 8);
        text("flood 0000000000000000000000000000000000000000000000001", 1);
    }

    private static void islandFaults() {
        promise = 33;
        text("", -1);
        text("   ", -4);
        text(";", -1);
        text("flood", -6);
        text("flood  ", -8);
        text("flood 401", -7);
        text("flood 20 period 15", -17);
        text("flood 20 period 401", -17);
        text("flood 20 length 0", -17);
        text("flood 20 length 8", -17);
        text("flood 20 period", -16);
        text("flood 20 length 3 period 20", -19);
        text("flood 20 period 20 period 20", -20);
        text("flood 20 20", -10);
        text("flood 20;", -10);
        text("flood 20;;", -10);
        text("flood period 20", -7);
        text("floods 20", -1);
        text("floo 20", -1);
        text("floodperiod 20", -1);
        text("floodz 20", -1);
        text("flooda 20", -1);
        text("zflood 20", -1);
        text("flood{20", -6);
        text("flood`20", -6);
        text("flood/20", -6);
        text("flood:20", -6);
        text("flood 9 99", -9);
        text("flood 10000", -7);
        text("flood 4294967296", -7);
        text("flood 18446744073709551616", -7);
        text("20", -1);
        text("Flood 20", -1);
        text("flood\t20", -6);
        text("flood -1", -7);
        text("flood 20,mill 1", -9);
        text("late", -5);
        text("late;", -5);
        text("late 30", -6);
        text("late 3 3", -8);
        text("late 3 2", -8);
        text("late 29 30", -9);
        text("fails 1 mill 2", -9);
        text("halves 1 ship", -10);
        text("mill", -5);
        text("mill 4", -6);
        text("mill 1 1", -8);
        text("mill house", -6);
        text("mills 1", -1);
        text("ship", -5);
        text("ship 4 comes 0 stays 1", -6);
        text("ship 0 stays 1", -8);
        text("ship 0 comes 10000 stays 1", -14);
        text("ship 0 comes 0 quay 1", -16);
        text("ship 0 comes 0 stays 0", -22);
        text("ship 0 comes 0 stays 41", -22);
        text("ship 0 comes 0 stays 1 quay", -28);
        text("ship 0 comes 0 stays 1 quay 4", -29);
        text("ship 0 comes 0 stays 1 quay 1 2", -31);
        text("wind 4 0", -6);
        text("wind 0", -7);
        text("wind 0 10", -8);
        text("period 20", -1);
        text("house 0;house 0;house 0;house 0;house 0;house 0;house 0;house 0; shed 9", -66);
        text("lags 1", -1);
    }

    private static void islandState() {
        promise = 33;
        TideQuarter x = new TideQuarter();
        x.house(5, 3);
        Checks.tell(x, "flood 5 length 7;late 1 3;fails 4;halves 0 29;mill 2;ship 3 comes 9 stays 4 quay 1;wind 2 5");
        due("island()", x.island(), 7);
        due("FLOOD", x.tides(0, 6), 5);
        due("PERIOD stays", x.tides(1, 40), 50);
        due("LENGTH", x.tides(2, 1), 7);
        due("LATE", x.sets(0, 1), 10);
        due("FAILS", x.sets(1, 1), 16);
        due("HALVES", x.sets(2, 1), 1 | 1 << 29);
        due("house 0", x.houseOf(0, 0), 5);
        due("house 1", x.houseOf(1, 0), 1);
        due("its front", x.houseOf(1, 1), 2);
        due("ships", x.count(1), 1);
        due("COURSE", x.shipOf(0, 0), 3);
        due("COMES", x.shipOf(0, 1), 9);
        due("STAYS", x.shipOf(0, 2), 4);
        due("QUAY", x.shipOf(0, 3), 1);
        due("SIDE", x.count(4), 2);
        due("FORCE", x.count(2), 5);
        Checks.tell(x, "flood 1 period 33 length 2; late 5; house 0; ship 0 comes 0 stays 1; wind 1 1; inn 4");
        due("island() with a fault", x.island(), -84);
        due("FLOOD stays", x.tides(0, 7), 6);
        due("PERIOD stays", x.tides(1, 41), 40);
        due("LENGTH stays", x.tides(2, 2), 1);
        due("LATE stays", x.sets(0, 2), 1);
        due("houses stay", x.count(0), 2);
        due("ships stay", x.count(1), 1);
        due("SIDE stays", x.count(4), 2);
        due("FORCE stays", x.count(2), 5);
        due("no finding", x.status(-1), 0);
        Checks.tell(x, "flood 3 period 30;late 2;late 7 8");
        due("island(), a set told twice", x.island(), 3);
        due("FLOOD", x.tides(0, 7), 3);
        due("PERIOD", x.tides(1, 41), 30);
        due("LENGTH stays", x.tides(2, 2), 2);
        due("LATE, the latest", x.sets(0, 2), 384);
        Checks.tell(x, "ship 0 comes 0 stays 1;ship 0 comes 0 stays 1;ship 0 comes 0 stays 1;ship 0 comes 0 stays 1");
        due("island()", x.island(), 4);
        due("QUAY, none told", x.shipOf(4, 3), -1);
        Checks.tell(x, "ship 0 comes 0 stays 1; ship 0 comes 0 stays 1");
        due("island(), a 7th ship", x.island(), -25);
        due("count(1)", x.count(1), 5);
        for (int i = 0; i < 6; i++) {
            x.house(0, 0);
        }
        Checks.tell(x, "dorm 7");
        due("island(), a 9th house", x.island(), -1);
        due("status(-1)", x.status(-1), 0);
    }

    private static void sheet() {
        TideQuarter x = at(34);
        due("sheet(0, 8, 40)", x.sheet(0, 8, 40), 40);
        due("sheet(1, 16, 1)", x.sheet(1, 16, 1), 1);
        due("sheet(2, 64, 0)", x.sheet(2, 64, 0), 0);
        due("write(2, 0, 0), not missing", x.write(2, 0, 0), BEYOND);
        due("write(0, 39, 7)", x.write(0, 39, 7), 0);
        due("sheet(0, 8, 40) again", x.sheet(0, 8, 40), 40);
        due("write(0, 39, 7), all 0 again", x.write(0, 39, 7), 0);
        due("sheet(0, 0, 40)", x.sheet(0, 0, 40), 0);
        due("write(0, 0, 0)", x.write(0, 0, 0), MISSING);
        due("sheet(-1, 8, 1)", x.sheet(-1, 8, 1), BEYOND);
        due("sheet(4, 8, 1)", x.sheet(4, 8, 1), BEYOND);
        due("sheet(4, 8, -1)", x.sheet(4, 8, -1), BEYOND);
        due("sheet(0, 32, 1)", x.sheet(0, 32, 1), BEYOND);
        due("sheet(0, -8, 1)", x.sheet(0, -8, 1), BEYOND);
        due("sheet(0, 1, -1)", x.sheet(0, 1, -1), BEYOND);
        due("sheet(0, 8, -1)", x.sheet(0, 8, -1), SIZE);
        due("sheet(0, 0, -1)", x.sheet(0, 0, -1), SIZE);
        due("sheet(0, 8, 41)", x.sheet(0, 8, 41), BEYOND);
        due("sheet(0, 0, 41)", x.sheet(0, 0, 41), BEYOND);
        due("sheet(1, 0, 41)", x.sheet(1, 0, 41), BEYOND);
        due("write(1, 0, 5), as it was", x.write(1, 0, 5), 0);
        due("status(6)", x.status(6), 2);
    }

    private static void write() {
        TideQuarter x = at(35);
        int[] bits = {8, 16, 64};
        long[] told = {0x7f, 0x80, 0xff, 0x100, 0x7fff, 0x8000, 0x12345, -1L, -1000000001L, Long.MIN_VALUE};
        for (int s = 0; s < 3; s++) {
            x.sheet(s, bits[s], 2);
            long was = 0;
            for (long v : told) {
                due("write(" + s + ", 1, " + v + ")", x.write(s, 1, v), was);
                was = s == 0 ? (byte) v : s == 1 ? (short) v : v;
            }
            due("write(" + s + ", 0, 9)", x.write(s, 0, 9), 0);
            due("write(" + s + ", 2, 9)", x.write(s, 2, 9), BEYOND);
            due("write(" + s + ", -1, 9)", x.write(s, -1, 9), BEYOND);
        }
        due("write(3, 0, 9)", x.write(3, 0, 9), MISSING);
        due("write(3, -1, 9)", x.write(3, -1, 9), MISSING);
        due("write(4, 0, 9)", x.write(4, 0, 9), BEYOND);
        due("write(-1, 0, 9)", x.write(-1, 0, 9), BEYOND);
        due("status(-1)", x.status(-1), 10);
    }

    private static void copy() {
        TideQuarter x = at(36);
        x.sheet(0, 8, 5);
        x.sheet(1, 8, 3);
        x.sheet(2, 16, 3);
        for (int i = 0; i < 5; i++) {
            x.write(0, i, i + 1);
        }
        due("copy(0, 1, 1, 0, 3)", x.copy(0, 1, 1, 0, 3), 3);
        due("write(1, 0, 0)", x.write(1, 0, 0), 2);
        due("write(1, 2, 0)", x.write(1, 2, 0), 4);
        due("copy(0, 0, 0, 1, 4), over itself", x.copy(0, 0, 0, 1, 4), 4);
        int[] was = {1, 1, 2, 3, 4};
        for (int i = 0; i < 5; i++) {
            due("write(0, " + i + ")", x.write(0, i, i + 1), was[i]);
        }
        due("copy(0, 1, 0, 0, 4), over itself", x.copy(0, 1, 0, 0, 4), 4);
        int[] then = {2, 3, 4, 5, 5};
        for (int i = 0; i < 5; i++) {
            due("write(0, " + i + ")", x.write(0, i, 0), then[i]);
        }
        due("copy of none, at the end", x.copy(0, 5, 1, 3, 0), 0);
        due("copy of none, behind the end", x.copy(0, 6, 1, 3, 0), BEYOND);
        due("copy of none, to behind the end", x.copy(0, 5, 1, 4, 0), BEYOND);
        due("copy, too many from", x.copy(0, 3, 1, 0, 3), BEYOND);
        due("copy, too many to", x.copy(0, 0, 1, 1, 3), BEYOND);
        due("copy, n below 0", x.copy(0, 0, 1, 0, -1), BEYOND);
        due("copy, from below 0", x.copy(0, -1, 1, 0, 1), BEYOND);
        due("copy, to below 0", x.copy(0, 0, 1, -1, 1), BEYOND);
        due("copy, sums wrap", x.copy(0, Integer.MAX_VALUE, 1, 0, 1), BEYOND);
        due("copy, sums wrap", x.copy(0, 1, 1, 0, Integer.MAX_VALUE), BEYOND);
        due("copy, sums wrap", x.copy(0, 0, 1, Integer.MAX_VALUE, Integer.MAX_VALUE), BEYOND);
        due("copy, other bits", x.copy(0, -1, 2, 0, 1), KIND);
        due("copy, missing", x.copy(0, -1, 3, 0, 1), MISSING);
        due("copy, missing", x.copy(3, 0, 2, 0, 1), MISSING);
        due("copy, no such sheet", x.copy(3, 0, 4, 0, 1), BEYOND);
        due("copy, no such sheet", x.copy(4, 0, 3, 0, 1), BEYOND);
        due("copy, no such sheet", x.copy(-1, 0, 0, 0, 1), BEYOND);
        due("copy, no such sheet", x.copy(0, 0, -1, 0, 1), BEYOND);
    }

    private static void lays() {
        TideQuarter x = at(37);
        for (int i = 0; i < 5; i++) {
            x.house(0, 2);
        }
        x.sheet(0, 64, 8);
        long[] told = {3, 4, -1, 0, 1L << 32, 1, 2, 3};
        for (int i = 0; i < told.length; i++) {
            x.write(0, i, told[i]);
        }
        due("lays(0)", x.lays(0), 2);
        int[] fronts = {3, 2, 2, 0, 2};
        for (int i = 0; i < 5; i++) {
            due("houseOf(" + i + ", 1)", x.houseOf(i, 1), fronts[i]);
        }
        x.sheet(1, 8, 2);
        due("lays(1)", x.lays(1), 2);
        due("houseOf(0, 1)", x.houseOf(0, 1), 0);
        due("houseOf(2, 1)", x.houseOf(2, 1), 2);
        x.sheet(1, 8, 0);
        due("lays(1), an empty one", x.lays(1), 0);
        due("lays(2)", x.lays(2), MISSING);
        due("lays(4)", x.lays(4), BEYOND);
        due("lays(-1)", x.lays(-1), BEYOND);
    }

    private static void calendar() {
        TideQuarter x = at(38);
        int[] bits = {8, 16, 64};
        for (int s = 0; s < 3; s++) {
            x.sheet(s, bits[s], 5);
            due("calendar(" + s + ", 1, 18, 2)", x.calendar(s, 1, 18, 2), 5);
            int[] sides = {1, -1, -1, 2, 2};
            for (int i = 0; i < 5; i++) {
                due("write(" + s + ", " + i + ")", x.write(s, i, 7), sides[i]);
            }
        }
        x.sheet(0, 8, 40);
        due("calendar(0, 3, 9999, 96)", x.calendar(0, 3, 9999, 96), 40);
        due("write(0, 39, 0)", x.write(0, 39, 0), (3 + (9999 + 39 * 96 - 23) / 50 + 1) % 4);
        due("write(0, 0, 0)", x.write(0, 0, 0), (3 + 200) % 4);
        x.sheet(1, 8, 0);
        due("calendar(1, 0, 0, 1), an empty one", x.calendar(1, 0, 0, 1), 0);
        due("calendar(0, 4, 0, 1)", x.calendar(0, 4, 0, 1), BEYOND);
        due("calendar(0, -1, 0, 1)", x.calendar(0, -1, 0, 1), BEYOND);
        due("calendar(0, 0, -1, 1)", x.calendar(0, 0, -1, 1), BEYOND);
        due("calendar(0, 0, 10000, 1)", x.calendar(0, 0, 10000, 1), BEYOND);
        due("calendar(0, 0, 0, 0)", x.calendar(0, 0, 0, 0), BEYOND);
        due("calendar(0, 0, 0, 97)", x.calendar(0, 0, 0, 97), BEYOND);
        due("calendar(3, 4, 0, 1)", x.calendar(3, 4, 0, 1), MISSING);
        due("calendar(4, 0, 0, 1)", x.calendar(4, 0, 0, 1), BEYOND);
        due("calendar(-1, 0, 0, 1)", x.calendar(-1, 0, 0, 1), BEYOND);
        due("write(0, 1, 0), as it was", x.write(0, 1, 0), (3 + (9999 + 96 - 23) / 50 + 1) % 4);
    }

    private static void read() {
        TideQuarter x = at(39);
        int[] bits = {8, 16, 64};
        for (int s = 0; s < 3; s++) {
            x.sheet(s, bits[s], 5);
            x.calendar(s, 1, 18, 2);
            due("read(" + s + ", 1, 18, 2)", x.read(s, 1, 18, 2), 0);
            due("read(" + s + ", 2, 18, 2)", x.read(s, 2, 18, 2), 1);
            x.write(s, 4, 3);
            due("read(" + s + "), the last wrong", x.read(s, 1, 18, 2), 5);
            x.write(s, 2, 0);
            due("read(" + s + "), the third wrong", x.read(s, 1, 18, 2), 3);
        }
        x.write(2, 0, 1L + (1L << 32));
        due("read(2), wide", x.read(2, 1, 18, 2), 1);
        x.sheet(1, 8, 0);
        due("read(1, 0, 0, 1), an empty one", x.read(1, 0, 0, 1), 0);
        due("read(0, 4, 0, 1)", x.read(0, 4, 0, 1), BEYOND);
        due("read(0, 0, 10000, 1)", x.read(0, 0, 10000, 1), BEYOND);
        due("read(0, 0, 0, 0)", x.read(0, 0, 0, 0), BEYOND);
        due("read(0, 0, 0, 97)", x.read(0, 0, 0, 97), BEYOND);
        due("read(3, 4, 0, 1)", x.read(3, 4, 0, 1), MISSING);
        due("read(4, 0, 0, 1)", x.read(4, 0, 0, 1), BEYOND);
    }

    private static void image() {
        TideQuarter x = at(40);
        due("image()", x.image(), 1);
        x.house(0, 1);
        due("image() again", x.image(), 1);
        due("undo(), the latest", x.undo(), 1);
    }

    private static void undo() {
        TideQuarter x = at(41);
        due("undo()", x.undo(), NONE);
        x.tides(0, 1);
        x.tides(1, 17);
        x.tides(2, 2);
        x.tides(3, 4);
        x.sets(0, 1);
        x.sets(1, 2);
        x.sets(2, 4);
        x.wind(1, 5);
        x.house(5, 3);
        x.ship(2, 8, 9);
        x.quay(0, 1);
        x.sheet(0, 8, 1);
        x.write(0, 0, 5);
        Checks.tell(x, "ab");
        x.image();
        x.tides(0, 2);
        x.tides(1, 18);
        x.tides(2, 3);
        x.tides(3, 5);
        x.sets(0, 8);
        x.sets(1, 16);
        x.sets(2, 32);
        x.wind(2, 6);
        x.turn(0, 0);
        x.house(1, 1);
        x.clear();
        x.ship(0, 0, 1);
        x.ship(0, 0, 1);
        x.write(0, 0, 6);
        Checks.tell(x, "c");
        due("undo(), kept", x.undo(), 1);
        due("undo(), stays", x.undo(), 1);
        due("FLOOD", x.tides(0, 3), 1);
        due("PERIOD", x.tides(1, 19), 17);
        due("LENGTH", x.tides(2, 4), 2);
        due("LAG", x.tides(3, 6), 4);
        due("LATE", x.sets(0, 0), 1);
        due("FAILS", x.sets(1, 0), 2);
        due("HALVES", x.sets(2, 0), 4);
        due("SIDE", x.count(4), 1);
        due("FORCE", x.count(2), 5);
        due("KIND", x.houseOf(0, 0), 5);
        due("FRONT", x.houseOf(0, 1), 3);
        due("SHIPS", x.count(1), 1);
        due("COURSE", x.shipOf(0, 0), 2);
        due("COMES", x.shipOf(0, 1), 8);
        due("STAYS", x.shipOf(0, 2), 9);
        due("QUAY", x.shipOf(0, 3), 1);
        due("THE TAPE isn't kept", x.count(3), 3);
        due("sheets aren't kept", x.write(0, 0, 7), 6);
        due("status(-1)", x.status(-1), 1);
    }

    private static void tear() {
        TideQuarter x = at(42);
        due("tear()", x.tear(), 0);
        x.image();
        x.image();
        due("tear(), one", x.tear(), 1);
        due("tear() again", x.tear(), 0);
        due("undo()", x.undo(), NONE);
        due("image()", x.image(), 1);
        due("undo(), kept", x.undo(), 0);
    }

    private static void count() {
        TideQuarter x = at(43);
        x.house(0, 0);
        x.house(0, 0);
        x.ship(0, 0, 1);
        x.wind(3, 8);
        Checks.tell(x, "abcd");
        int[] want = {2, 1, 8, 4, 3};
        for (int what = 0; what < 5; what++) {
            due("count(" + what + ")", x.count(what), want[what]);
        }
        due("count(5)", x.count(5), BEYOND);
        due("count(-1)", x.count(-1), BEYOND);
    }

    private static void status() {
        TideQuarter x = at(44);
        due("status(7)", x.status(7), BEYOND);
        due("status(-2)", x.status(-2), BEYOND);
        due("status(0)", x.status(0), 2);
        due("status(-1)", x.status(-1), 2);
        x.image();
        x.undo();
        due("status(-1), undo takes none back", x.status(-1), 2);
        x.feed(0, 4);
        for (int i = 0; i < 30; i++) {
            x.feed(0, 4);
        }
        x.house(1, 0);
        x.as(0, 2);
        x.tear();
        x.undo();
        x.undo();
        x.lays(0);
        x.sheet(0, 8, -1);
        int[] want = {2, 1, 1, 2, 0, 1, 1};
        for (int which = 0; which < 7; which++) {
            due("status(" + which + ")", x.status(which), want[which]);
        }
        due("status(-1)", x.status(-1), 8);
    }
}
