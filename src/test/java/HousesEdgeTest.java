/** The sentences of the document that name an edge of houses, their gains and days: promises 11 to 20. */
public final class HousesEdgeTest {
    private static final int HOUSE = 0;
    private static final int MILL = 1;
    private static final int SHED = 2;
    private static final int INN = 3;
    private static final int SAILS = 4;
    private static final int DORM = 5;

    /** Nothing turns till tick 12400: front f looks to side f. */
    private static TideQuarter calm(int... kindsAndFronts) {
        TideQuarter x = Checks.still();
        x.tides(0, 400);
        x.tides(1, 400);
        for (int i = 0; i < kindsAndFronts.length; i += 2) {
            x.house(kindsAndFronts[i], kindsAndFronts[i + 1]);
        }
        return x;
    }

    private static void gain(TideQuarter x, int house, int tick, int want) {
        Checks.due("gain(" + house + ", " + tick + ")", x.gain(house, tick), want);
    }

    private static void sum(TideQuarter x, int house, int tick, int n, int want) {
        Checks.due("sum(" + house + ", " + tick + ", " + n + ")", x.sum(house, tick, n), want);
    }

    private static void best(TideQuarter x, int house, int tick, int n, int want) {
        Checks.due("best(" + house + ", " + tick + ", " + n + ")", x.best(house, tick, n), want);
    }

    private static void exchange(TideQuarter x, int tick, int n, int want) {
        Checks.due("exchange(" + tick + ", " + n + ")", x.exchange(tick, n), want);
    }

    private static void days(TideQuarter x, int side, int hour, int tick, int want) {
        Checks.due("days(0, " + side + ", " + hour + ", " + tick + ")", x.days(0, side, hour, tick), want);
    }

    private static void sun() {
        Checks.says(0, "HOUR of a TICK is the rest of it by 96, by 4.");
        TideQuarter x = calm(HOUSE, 1);
        for (int day : new int[] {0, 1, 2, 103}) {
            gain(x, 0, 96 * day, 0);
            gain(x, 0, 96 * day + 23, 0);
            gain(x, 0, 96 * day + 24, 1);
            gain(x, 0, 96 * day + 47, 1);
            gain(x, 0, 96 * day + 48, 0);
            gain(x, 0, 96 * day + 95, 0);
        }
        gain(x, 0, 9984 + 15, 0);
        Checks.says(0, "SUN of a SIDE in an HOUR: east in HOURS 6 to 11, south in 9 to 15, west in 12 to 18: 1; else 0 (nowhere and north: 0).");
        int[] first = {24, 6, 9, 12};
        int[] last = {-1, 11, 15, 18};
        TideQuarter y = calm(HOUSE, 0, HOUSE, 1, HOUSE, 2, HOUSE, 3);
        for (int side = 0; side < 4; side++) {
            for (int hour = 0; hour < 24; hour++) {
                int want = hour >= first[side] && hour <= last[side] ? 1 : 0;
                gain(y, side, 4 * hour, want);
                gain(y, side, 4 * hour + 3, want);
            }
        }
        TideQuarter z = new TideQuarter();
        for (int f = 0; f < 4; f++) {
            z.house(HOUSE, f);
        }
        z.tides(0, 36);
        for (int f = 0; f < 4; f++) {
            gain(z, f, 35, f == 1 ? 1 : 0);
            gain(z, f, 36, 0);
            gain(z, f, 38, 0);
            gain(z, f, 39, f < 2 ? 1 : 0);
        }
    }

    private static void gains() {
        Checks.says(0, "MILL: 2 if its FRONT looks to where WIND blows from, else 0.");
        TideQuarter x = calm(MILL, 0, MILL, 1, MILL, 2, MILL, 3);
        for (int side = 0; side < 4; side++) {
            x.wind(side, 7);
            for (int f = 0; f < 4; f++) {
                gain(x, f, 50, f == side ? 2 : 0);
            }
        }
        TideQuarter y = new TideQuarter();
        y.house(MILL, 0);
        y.house(SAILS, 0);
        for (int side = 0; side < 4; side++) {
            y.wind(side, 9);
            gain(y, 0, 20, 0);
            gain(y, 1, 22, 0);
            gain(y, 0, 19, side == 0 ? 2 : 0);
            gain(y, 0, 23, side == 1 ? 2 : 0);
            gain(y, 1, 23, side == 1 ? 18 : 0);
        }
        Checks.says(0, "SHED: 1 less what it is for a HOUSE.");
        TideQuarter z = calm(SHED, 0, SHED, 1);
        gain(z, 0, 40, 1);
        gain(z, 1, 23, 1);
        gain(z, 1, 24, 0);
        gain(z, 1, 47, 0);
        gain(z, 1, 48, 1);
        z.sets(1, 0);
        z.tides(0, 30);
        gain(z, 1, 29, 0);
        gain(z, 1, 30, 1);
        Checks.says(0, "INN: as HOUSE, and 1 more if that isn't 0 and the HOUR is 12 or more.");
        TideQuarter inn = calm(INN, 0, INN, 1, INN, 2, INN, 3);
        int[][] want = {
            {0, 23, 0}, {0, 48, 0}, {0, 60, 0}, {1, 24, 1}, {1, 47, 1}, {1, 48, 0}, {2, 35, 0}, {2, 36, 1}, {2, 47, 1},
            {2, 48, 2}, {2, 63, 2}, {2, 64, 0}, {3, 47, 0}, {3, 48, 2}, {3, 75, 2}, {3, 76, 0}, {3, 95, 0},
        };
        for (int[] w : want) {
            gain(inn, w[0], w[1], w[2]);
        }
        moreGains();
    }

    private static void moreGains() {
        Checks.says(0, "SAILS: FORCE times what it is for a MILL.");
        TideQuarter x = calm(SAILS, 2, SAILS, 3);
        for (int force = 0; force < 10; force++) {
            x.wind(2, force);
            gain(x, 0, 9999, 2 * force);
            gain(x, 1, 9999, 0);
        }
        Checks.says(0, "DORM: 3 times what it is for an INN, in HOURS below 9; else 0.");
        TideQuarter y = calm(DORM, 0, DORM, 1, DORM, 2, DORM, 3);
        int[][] want = {
            {0, 0, 0}, {0, 32, 0}, {1, 23, 0}, {1, 24, 3}, {1, 35, 3}, {1, 36, 0}, {1, 47, 0}, {2, 35, 0}, {2, 36, 0},
            {2, 48, 0}, {3, 35, 0}, {3, 48, 0}, {3, 75, 0}, {3, 95, 0},
        };
        for (int[] w : want) {
            gain(y, w[0], w[1], w[2]);
        }
    }

    private static void kinds() {
        Checks.says(0, "0 HOUSE, 1 MILL under HOUSE, 2 SHED under HOUSE, 3 INN under HOUSE, 4 SAILS under MILL, 5 DORM under INN");
        String[] under = {"0", "01", "02", "03", "014", "035"};
        for (int kind = 0; kind < 6; kind++) {
            TideQuarter x = new TideQuarter();
            x.house(kind, 3);
            for (int k = 0; k < 6; k++) {
                Checks.due("as(" + kind + " as " + k + ")", x.as(0, k), under[kind].indexOf('0' + k) >= 0 ? 3 : Checks.KIND);
            }
            Checks.due("status(2)", x.status(2), 6 - under[kind].length());
        }
        Checks.says(14, "KIND: it isn't of that kind, nor of one under it.");
        Checks.refused("as(1, 5), a SAILS as a DORM", Checks::mixed, x -> x.as(1, 5), Checks.KIND);
        Checks.refused("as(0, 4), a MILL as a SAILS", Checks::mixed, x -> x.as(0, 4), Checks.KIND);
        Checks.refused("as(2, 2), a DORM as a SHED", Checks::mixed, x -> x.as(2, 2), Checks.KIND);
        Checks.changesNothing("as(2, 0), a DORM as a HOUSE", Checks::mixed, x -> x.as(2, 0), 1);
        Checks.changesNothing("as(7, 1)", Checks::full, x -> x.as(7, 1), 0);
    }

    private static void many() {
        Checks.says(0, "HOUSES 0, 1, .. (at most 8)");
        TideQuarter x = new TideQuarter();
        for (int h = 0; h < 8; h++) {
            Checks.due("count(0)", x.count(0), h);
            Checks.due("houseOf(" + h + ", 0), not yet there", x.houseOf(h, 0), Checks.BEYOND);
            Checks.due("house()", x.house(5 - h % 6, 3 - h % 4), h);
            Checks.due("houseOf(" + h + ", 0)", x.houseOf(h, 0), 5 - h % 6);
            Checks.due("houseOf(" + h + ", 1)", x.houseOf(h, 1), 3 - h % 4);
        }
        Checks.says(11, "A new HOUSE: its number. BEYOND: kind, front. FULL.");
        Checks.due("house(), a 9th", x.house(0, 0), Checks.FULL);
        Checks.due("house(), a 9th again", x.house(5, 3), Checks.FULL);
        Checks.due("count(0)", x.count(0), 8);
        Checks.due("houseOf(8, 0)", x.houseOf(8, 0), Checks.BEYOND);
        Checks.due("status(1)", x.status(1), 2);
        Checks.refused("house(0, 0), a 9th", Checks::full, y -> y.house(0, 0), Checks.FULL);
        Checks.says(13, "FRONT of a HOUSE becomes v: what it was. BEYOND.");
        TideQuarter z = new TideQuarter();
        z.house(DORM, 2);
        z.house(DORM, 1);
        Checks.due("turn(0, 0)", z.turn(0, 0), 2);
        Checks.due("turn(0, 3)", z.turn(0, 3), 0);
        Checks.due("turn(0, 4)", z.turn(0, 4), Checks.BEYOND);
        Checks.due("turn(0, -1)", z.turn(0, -1), Checks.BEYOND);
        Checks.due("turn(0, 3), the same again", z.turn(0, 3), 3);
        Checks.due("turn(2, 0)", z.turn(2, 0), Checks.BEYOND);
        Checks.due("houseOf(1, 1)", z.houseOf(1, 1), 1);
    }

    private static void sums() {
        Checks.says(16, "SUM of a HOUSE for n TICKS (1 to 960) from one on.");
        int[] fronts = {0, 1, 2, 3};
        int[][] ofDay = {{0, 24, 28, 28}, {192, 0, 0, 0}, {96, 72, 68, 68}, {0, 24, 44, 56}, {1728, 0, 0, 0}, {0, 36, 0, 0}};
        for (int kind = 0; kind < 6; kind++) {
            TideQuarter x = calm(kind, 0, kind, 1, kind, 2, kind, 3);
            x.wind(0, 9);
            for (int f : fronts) {
                sum(x, f, 0, 96, ofDay[kind][f]);
                sum(x, f, 0, 960, 10 * ofDay[kind][f]);
                sum(x, f, 9999, 960, 10 * ofDay[kind][f]);
                sum(x, f, 5, 959, 10 * ofDay[kind][f] - x.gain(f, 4));
            }
        }
        TideQuarter y = new TideQuarter();
        y.house(MILL, 0);
        y.house(SHED, 0);
        for (int tick : new int[] {0, 19, 20, 22, 23, 9999}) {
            sum(y, 0, tick, 1, y.gain(0, tick));
            sum(y, 1, tick, 1, y.gain(1, tick));
        }
        for (int hour = 0; hour < 24; hour++) {
            y.tides(0, 4 * hour);
            y.tides(2, 4);
            sum(y, 1, 4 * hour, 4, 4);
            sum(y, 0, 4 * hour, 4, 0);
        }
        y.tides(0, 20);
        y.tides(2, 3);
        sum(y, 0, 0, 20, 40);
        sum(y, 0, 0, 21, 40);
        sum(y, 0, 0, 19, 38);
        sum(y, 0, 19, 2, 2);
        sum(y, 0, 20, 154, 2);
        sum(y, 0, 20, 153, 0);
        // front 0 looks north at 9999 (turned 200) to 10019, and again from 10173 to 10219 and so on
        sum(y, 0, 9999, 21, 42);
        sum(y, 0, 9999, 174, 42);
        sum(y, 0, 9999, 175, 44);
        sum(y, 0, 9999, 960, 42 + 4 * 2 * 47);
    }

    private static void bests() {
        Checks.says(17, "The FRONT with which SUM of a HOUSE is most; of several the least.");
        TideQuarter x = calm(HOUSE, 0, MILL, 3, SHED, 1, INN, 0, SAILS, 3, DORM, 2);
        int[] most = {2, 0, 0, 3, 0, 1};
        for (int h = 0; h < 6; h++) {
            best(x, h, 0, 960, most[h]);
            best(x, h, 9999, 960, most[h]);
        }
        best(x, 0, 0, 1, 0);
        best(x, 0, 23, 1, 0);
        best(x, 0, 24, 1, 1);
        best(x, 0, 36, 1, 1);
        best(x, 0, 47, 1, 1);
        best(x, 0, 48, 1, 2);
        best(x, 0, 63, 1, 2);
        best(x, 0, 64, 1, 3);
        best(x, 0, 75, 1, 3);
        best(x, 0, 76, 1, 0);
        best(x, 0, 47, 2, 2);
        best(x, 2, 24, 12, 0);
        for (int side = 0; side < 4; side++) {
            x.wind(side, 1);
            best(x, 1, 9999, 1, side);
            best(x, 4, 0, 960, side);
            x.wind(side, 0);
            best(x, 4, 0, 960, 0);
        }
        TideQuarter y = new TideQuarter();
        y.house(MILL, 2);
        best(y, 0, 20, 3, 0);
        best(y, 0, 20, 4, 3);
        best(y, 0, 22, 2, 3);
        best(y, 0, 0, 960, 2);
        Checks.changesNothing("best(0, 0, 20)", Checks::mixed, z -> z.best(0, 0, 1), 1);
        Checks.says(18, "The HOUSE that has most SUM; of several the least. BEYOND. NONE: there are none.");
        Checks.refused("sunniest(0, 1), no houses", Checks::bare, z -> z.sunniest(0, 1), Checks.NONE);
        Checks.refused("sunniest(9999, 960), no houses", Checks::bare, z -> z.sunniest(9999, 960), Checks.NONE);
        TideQuarter one = calm(HOUSE, 0);
        Checks.due("sunniest, one house of no gain", one.sunniest(0, 960), 0);
        TideQuarter eight = calm(HOUSE, 0, HOUSE, 0, HOUSE, 0, HOUSE, 0, HOUSE, 0, HOUSE, 0, HOUSE, 0, HOUSE, 1);
        Checks.due("sunniest, by night all alike", eight.sunniest(23, 1), 0);
        Checks.due("sunniest, the eighth", eight.sunniest(24, 1), 7);
        Checks.due("sunniest, the eighth at the last tick", eight.sunniest(0, 25), 7);
        Checks.due("sunniest, one tick less", eight.sunniest(0, 24), 0);
        eight.turn(3, 1);
        Checks.due("sunniest, of two the least", eight.sunniest(9999, 960), 3);
        eight.turn(7, 2);
        Checks.due("sunniest, one has less and less far ahead", eight.sunniest(9999, 960), 7);
        Checks.due("sunniest, at hour 9 alike", eight.sunniest(36, 1), 3);
        // the sums of one night hour and of a morning's: the first, the second or the third has most
        int[][] three = {
            {SAILS, 0, SHED, 0, HOUSE, 1, 0, 0}, {SHED, 0, SAILS, 0, HOUSE, 1, 1, 1}, {HOUSE, 1, SHED, 0, SAILS, 0, 2, 2},
            {HOUSE, 1, HOUSE, 0, SHED, 1, 2, 0}, {HOUSE, 0, DORM, 1, SHED, 0, 2, 1}, {MILL, 0, MILL, 1, INN, 1, 0, 0},
            {MILL, 1, MILL, 0, INN, 1, 1, 1}, {SHED, 1, HOUSE, 1, MILL, 1, 0, 1},
        };
        for (int[] t : three) {
            TideQuarter z = calm(t[0], t[1], t[2], t[3], t[4], t[5]);
            Checks.due("sunniest by night", z.sunniest(0, 4), t[6]);
            Checks.due("sunniest in the morning", z.sunniest(24, 4), t[7]);
        }
    }

    private static void daysTold() {
        Checks.says(19, "How many days (of 30, from the day of a TICK on, the rest of it by 96 taken off) have a TICK of HOUR h at which the FRONT of a HOUSE looks to a SIDE.");
        TideQuarter x = calm(HOUSE, 0);
        for (int tick : new int[] {0, 1, 95, 96, 9599}) {
            for (int hour : new int[] {0, 1, 22, 23}) {
                days(x, 0, hour, tick, 30);
                days(x, 1, hour, tick, 0);
            }
        }
        // tide 30 alone turns, from 12400 to 12403, the last tick of hour 4 of day 129
        days(x, 0, 3, 9999, 26);
        days(x, 0, 4, 9999, 25);
        days(x, 1, 4, 9999, 5);
        days(x, 1, 3, 9999, 4);
        days(x, 0, 4, 9983, 26);
        days(x, 0, 4, 9984, 25);
        // tide 31 ends at 12803, the last tick of hour 8 of day 133, the last of 30
        days(x, 2, 8, 9999, 1);
        days(x, 2, 7, 9999, 0);
        days(x, 1, 8, 9999, 4);
        days(x, 2, 8, 9983, 0);
        // tide 6 alone turns, from 2784 to 2787, the last tick of hour 0 of day 29
        TideQuarter y = calm(HOUSE, 0);
        y.sets(1, Checks.ALL - (1 << 6));
        y.tides(0, 384);
        days(y, 1, 0, 0, 1);
        days(y, 0, 0, 0, 29);
        days(y, 0, 1, 0, 29);
        days(y, 1, 23, 0, 1);
        days(y, 1, 0, 95, 1);
        days(y, 1, 0, 96, 2);
        days(y, 1, 0, 191, 2);
        days(y, 1, 0, 192, 3);
        y.tides(0, 385);
        days(y, 0, 0, 0, 30);
        days(y, 1, 0, 0, 0);
        days(y, 1, 1, 0, 1);
        // tide 7 alone turns, till 2880, the first tick of the 31st day
        y.sets(1, Checks.ALL - (1 << 7));
        y.tides(0, 77);
        for (int hour = 0; hour < 24; hour++) {
            days(y, 0, hour, 0, 30);
            days(y, 1, hour, 0, 0);
            days(y, 1, hour, 96, 1);
        }
        y.tides(0, 76);
        days(y, 1, 23, 0, 1);
        days(y, 0, 23, 0, 29);
        days(y, 1, 22, 0, 0);
    }

    private static void exchanges() {
        Checks.says(20, "The two HOUSES, as 10 times the lesser and the greater, who by exchanging FRONTS have most more SUM together than now, neither of them less than now; of several the least. BEYOND. NONE: no two have more.");
        Checks.refused("exchange(0, 1), no houses", Checks::bare, z -> z.exchange(0, 1), Checks.NONE);
        exchange(calm(MILL, 1), 0, 960, Checks.NONE);
        exchange(calm(HOUSE, 0, DORM, 1), 36, 1, 1);
        exchange(calm(HOUSE, 0, DORM, 1), 36, 12, 1);
        exchange(calm(HOUSE, 0, DORM, 1), 35, 2, Checks.NONE);
        exchange(calm(HOUSE, 0, DORM, 1), 48, 48, Checks.NONE);
        exchange(calm(MILL, 1, SHED, 0), 0, 1, 1);
        exchange(calm(MILL, 1, SHED, 0), 23, 1, 1);
        exchange(calm(MILL, 1, SHED, 0), 24, 1, Checks.NONE);
        exchange(calm(MILL, 1, SHED, 0), 0, 24, 1);
        exchange(calm(MILL, 1, SHED, 0), 0, 25, Checks.NONE);
        exchange(calm(SHED, 0, MILL, 1), 0, 25, Checks.NONE);
        exchange(calm(MILL, 1, HOUSE, 0), 0, 960, 1);
        exchange(calm(MILL, 1, HOUSE, 0), 9999, 960, 1);
        exchange(calm(MILL, 1, MILL, 0), 0, 960, Checks.NONE);
        exchange(calm(MILL, 1, MILL, 1), 0, 960, Checks.NONE);
        exchange(calm(HOUSE, 2, HOUSE, 3), 0, 96, Checks.NONE);
        exchange(calm(HOUSE, 0, MILL, 1), 0, 1, 1);
        TideQuarter x = calm(MILL, 1, HOUSE, 0, MILL, 1, HOUSE, 0);
        exchange(x, 0, 96, 1);
        x.turn(1, 1);
        exchange(x, 0, 96, 3);
        x.turn(1, 0);
        x.turn(0, 0);
        exchange(x, 0, 96, 12);
        x.house(SAILS, 2);
        exchange(x, 0, 96, 14);
        x.wind(0, 1);
        // sails of force 1 have as much of the wind as a mill, but the house more sun in the south
        exchange(x, 0, 96, 14);
        exchange(x, 0, 24, 12);
        TideQuarter eight = calm(HOUSE, 1, HOUSE, 1, HOUSE, 1, HOUSE, 1, HOUSE, 1, HOUSE, 1, HOUSE, 0, MILL, 1);
        exchange(eight, 0, 96, 67);
        eight.wind(1, 3);
        exchange(eight, 0, 96, Checks.NONE);
        eight.wind(0, 3);
        eight.turn(6, 1);
        eight.turn(0, 0);
        exchange(eight, 0, 96, 7);
        Checks.changesNothing("exchange(0, 960)", z -> {
            Checks.full(z);
            z.wind(1, 9);
        }, z -> z.exchange(0, 960), 34);
    }

    public static void main(String[] args) {
        sun();
        gains();
        kinds();
        many();
        sums();
        bests();
        daysTold();
        exchanges();
        Checks.end();
    }
}
