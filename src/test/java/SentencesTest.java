import java.util.Arrays;

/**
 * The sentences of the document that name no edge, and so stand quoted in none of the tests of the
 * edges: what the words mean, from the first line on, and what the calls say of them.
 */
public final class SentencesTest {
    private static final String[] NAMES = {"house", "mill", "shed", "inn", "sails", "dorm"};
    private static final int NORTH = 0;
    private static final int EAST = 1;
    private static final int SOUTH = 2;
    private static final int WEST = 3;

    private static void due(String call, long got, long want) {
        Checks.due(call, got, want);
    }

    private static void island(TideQuarter x, String text, int want) {
        Checks.tell(x, text);
        due("island() of '" + text + "'", x.island(), want);
    }

    /** Tides of each set, and houses of all kinds. */
    private static TideQuarter busy() {
        TideQuarter x = new TideQuarter();
        island(x, "flood 30 period 40 length 4;late 1 4;fails 2 9;halves 0 6 7", 4);
        x.tides(3, 5);
        x.wind(EAST, 5);
        for (int kind = 0; kind < 6; kind++) {
            x.house(kind, kind % 4);
        }
        return x;
    }

    private static void turnsToTheRight() {
        Checks.says(0, "an island that isn't fast to its ground but turns, with every flood, by one quarter to the right");
        TideQuarter x = new TideQuarter();
        int[] ofFront0 = {NORTH, EAST, SOUTH, WEST, NORTH, EAST};
        for (int quarters = 0; quarters < ofFront0.length; quarters++) {
            due("looks(0, ..), turned " + quarters, x.looks(0, 50 * quarters + 10), ofFront0[quarters]);
        }
    }

    private static void sides() {
        Checks.says(0, "SIDES: 0 north, 1 east, 2 south, 3 west.");
        TideQuarter still = Checks.still();
        for (int side = NORTH; side <= WEST; side++) {
            still.house(0, side);
            due("looks(" + side + ", 0)", still.looks(side, 0), side);
        }
        int[] morning = {0, 1, 0, 0};
        int[] noon = {0, 0, 1, 1};
        int[] evening = {0, 0, 0, 1};
        for (int side = NORTH; side <= WEST; side++) {
            due("sun of side " + side + " in hour 7", still.gain(side, 4 * 7), morning[side]);
            due("sun of side " + side + " in hour 12", still.gain(side, 4 * 12), noon[side]);
            due("sun of side " + side + " in hour 18", still.gain(side, 4 * 18), evening[side]);
        }
    }

    private static void ticks() {
        Checks.says(0, "TICKS 0, 1, .. (9999 at most where one is told) are quarters of an hour:");
        TideQuarter x = Checks.still();
        x.house(0, EAST);
        x.house(3, SOUTH);
        for (int hour = 0; hour < 24; hour++) {
            due("sum(0, ..) of hour " + hour, x.sum(0, 4 * hour, 4), hour >= 6 && hour <= 11 ? 4 : 0);
            due("sum(1, ..) of hour " + hour, x.sum(1, 4 * hour, 4), hour < 9 || hour > 15 ? 0 : hour < 12 ? 4 : 8);
        }
        due("sum(0, ..) of a day", x.sum(0, 0, 96), 24);
        TideQuarter y = new TideQuarter();
        y.house(1, NORTH);
        y.ship(NORTH, 9999, 1);
        y.sheet(0, 8, 1);
        due("turned(9999)", y.turned(9999), 200);
        due("between(9999)", y.between(9999), 0);
        due("looks(0, 9999)", y.looks(0, 9999), NORTH);
        due("front(0, 9999)", y.front(NORTH, 9999), 0);
        due("when(0, 0, 9999)", y.when(0, NORTH, 9999), 9999);
        due("gain(0, 9999)", y.gain(0, 9999), 2);
        due("sum(0, 9999, 2)", y.sum(0, 9999, 2), 4);
        due("days(0, 0, 3, 9999)", y.days(0, NORTH, 3, 9999), daysByLooks(0, NORTH, 3));
        due("lies(0, 0, 9999)", y.lies(0, 0, 9999), 1);
        due("fast(9999)", y.fast(9999), 21);
        due("off(9999, 22)", y.off(9999, 22), 1);
        due("calendar(0, 0, 9999, 1)", y.calendar(0, 0, 9999, 1), 1);
        due("status(-1)", y.status(-1), 0);
        due("turned(10000)", y.turned(10000), Checks.BEYOND);
        due("ship(0, 10000, 1)", y.ship(NORTH, 10000, 1), Checks.BEYOND);
        island(y, "ship 0 comes 10000 stays 1", -14);
    }

    /** Told from the tides at first alone: tide k is between from 20 + 50 k up to 22 + 50 k. */
    private static int daysByLooks(int front, int side, int hour) {
        int many = 0;
        for (int day = 104; day < 134; day++) {
            boolean any = false;
            for (int tick = 96 * day + 4 * hour; tick < 96 * day + 4 * hour + 4; tick++) {
                int behindFlood = tick - 20;
                int quarters = behindFlood / 50 + 1;
                any = any || behindFlood % 50 >= 3 && (front + quarters) % 4 == side;
            }
            many += any ? 1 : 0;
        }
        return many;
    }

    private static void quotients() {
        Checks.says(0, "Quotients are cut.");
        TideQuarter x = Checks.still();
        x.house(0, EAST);
        x.house(0, WEST);
        int[] hours = {5, 6, 11, 12};
        int[] ofEast = {0, 1, 1, 0};
        for (int i = 0; i < hours.length; i++) {
            for (int rest = 0; rest < 4; rest++) {
                due("gain(0, ..) in hour " + hours[i], x.gain(0, 4 * hours[i] + rest), ofEast[i]);
            }
        }
        due("gain(1, 75), hour 18", x.gain(1, 75), 1);
        due("gain(1, 76), hour 19", x.gain(1, 76), 0);
        // tide 30 alone turns front 1 away from the east, from tick 12400 on, in day 129
        x.tides(0, 400);
        x.tides(1, 400);
        due("days(0, 1, 23, 9503), in day 98", x.days(0, EAST, 23, 9503), 30);
        due("days(0, 1, 23, 9599), in day 99", x.days(0, EAST, 23, 9599), 30);
        due("days(0, 1, 23, 9600), in day 100", x.days(0, EAST, 23, 9600), 29);
        due("days(0, 1, 23, 9695), in day 100", x.days(0, EAST, 23, 9695), 29);
        due("days(0, 1, 23, 9696), in day 101", x.days(0, EAST, 23, 9696), 28);
    }

    private static void setsByBits() {
        Checks.says(0, "Sets are told by bits.");
        for (int k = 0; k < 30; k++) {
            TideQuarter x = new TideQuarter();
            x.tides(3, 8);
            due("sets(0, one bit)", x.sets(0, 1 << k), 0);
            for (int other = 0; other < 31; other++) {
                due("tide(" + other + ", 0), " + k + " is late", x.tide(other, 0), 20 + 50 * other + (other == k ? 8 : 0));
            }
            due("sets(0, 0)", x.sets(0, 0), 1 << k);
            x.sets(1, 1 << k);
            due("between, " + k + " fails", x.between(20 + 50 * k), 0);
            due("turned, " + k + " fails", x.turned(1573), 31);
            due("sets(1, 0)", x.sets(1, 0), 1 << k);
            x.sets(2, 1 << k);
            due("between, " + k + " stays half", x.between(69 + 50 * k), 1);
            due("turned, " + k + " stays half", x.turned(69 + 50 * k), k);
            due("turned, " + k + " is set right", x.turned(73 + 50 * k), k + 2);
            due("sets(2, 0)", x.sets(2, 0), 1 << k);
        }
        TideQuarter y = new TideQuarter();
        island(y, "late 0 5 29;fails 1;halves 2 3", 3);
        due("LATE", y.sets(0, 0), 1 | 1 << 5 | 1 << 29);
        due("FAILS", y.sets(1, 0), 1 << 1);
        due("HALVES", y.sets(2, 0), 1 << 2 | 1 << 3);
    }

    private static void allOthersTurn() {
        Checks.says(0, "All others turn by one quarter as they END.");
        TideQuarter x = new TideQuarter();
        x.sets(0, Checks.ALL);
        x.tides(3, 3);
        int was = 0;
        for (int k = 0; k < 100; k++) {
            int ends = x.tide(k, 1);
            due("turned(), " + k + " is about to end", x.turned(ends - 1), was);
            due("turned(), " + k + " ends", x.turned(ends), was + 1);
            was++;
        }
        // 2 fails; 0, 6 and 7 stay half till 1 and 8 end
        TideQuarter y = busy();
        int[] behind = {0, 2, 2, 3, 4, 5, 5, 5, 8, 8, 9};
        for (int k = 0; k < behind.length; k++) {
            due("turned(), " + k + " told of", y.turned(y.tide(k, 1)), behind[k]);
        }
    }

    private static void fronts() {
        Checks.says(0, "FRONTS 0 to 3:");
        for (int f : new int[] {-1, 0, 1, 2, 3, 4}) {
            boolean is = f >= 0 && f < 4;
            TideQuarter x = new TideQuarter();
            due("house(0, " + f + ")", x.house(0, f), is ? 0 : Checks.BEYOND);
            x.house(0, 0);
            due("turn(0, " + f + ")", x.turn(0, f) < 0 ? 1 : 0, is ? 0 : 1);
            due("looks(" + f + ", 0)", x.looks(f, 0), is ? f : Checks.BEYOND);
            due("when(" + f + ", 0, 0)", x.when(f, 0, 0) < 0 ? 1 : 0, is ? 0 : 1);
            x.ship(0, 0, 1);
            due("lies(0, " + f + ", 0)", x.lies(0, f, 0), is ? f == 0 ? 1 : 0 : Checks.BEYOND);
            due("quay(0, " + f + ")", x.quay(0, f), is || f == -1 ? -1 : Checks.BEYOND);
            x.sheet(0, 8, 2);
            due("calendar(0, " + f + ", 0, 1)", x.calendar(0, f, 0, 1), is ? 2 : Checks.BEYOND);
            due("read(0, " + f + ", 0, 1)", x.read(0, f, 0, 1), is ? 0 : Checks.BEYOND);
            x.write(0, 0, f);
            x.write(0, 1, 9);
            due("lays(0) of " + f, x.lays(0), is ? 1 : 0);
        }
    }

    private static void kinds() {
        Checks.says(0, "HOUSES 0, 1, .. (at most 8) are of KINDS:");
        TideQuarter x = new TideQuarter();
        for (int kind = 0; kind < 6; kind++) {
            due("house(" + kind + ", 0)", x.house(kind, 0), kind);
            due("houseOf(" + kind + ", 0)", x.houseOf(kind, 0), kind);
        }
        due("house(6, 0)", x.house(6, 0), Checks.BEYOND);
        Checks.says(0, "each has a FRONT.");
        for (int kind = 0; kind < 6; kind++) {
            for (int f = 0; f < 4; f++) {
                TideQuarter y = new TideQuarter();
                y.house(kind, f);
                island(y, NAMES[kind] + " " + f, 1);
                due("houseOf(0, 1)", y.houseOf(0, 1), f);
                due("houseOf(1, 0), of a text", y.houseOf(1, 0), kind);
                due("houseOf(1, 1), of a text", y.houseOf(1, 1), f);
            }
        }
        Checks.says(14, "A HOUSE as one of a kind: FRONT.");
        int[] upper = {0, 0, 0, 0, 1, 3};
        for (int kind = 0; kind < 6; kind++) {
            for (int f = 0; f < 4; f++) {
                TideQuarter y = new TideQuarter();
                y.house(kind, f);
                due("as(0, " + kind + ")", y.as(0, kind), f);
                due("as(0, " + upper[kind] + ")", y.as(0, upper[kind]), f);
                due("as(0, 0)", y.as(0, 0), f);
                y.turn(0, 3 - f);
                due("as(0, 0), turned", y.as(0, 0), 3 - f);
            }
        }
    }

    private static int sun(int side, int hour) {
        int[] first = {24, 6, 9, 12};
        int[] last = {-1, 11, 15, 18};
        return side >= 0 && hour >= first[side] && hour <= last[side] ? 1 : 0;
    }

    private static void gainOfHouse() {
        Checks.says(0, "GAIN of a HOUSE in a TICK: HOUSE: SUN of the SIDE to which its FRONT looks.");
        TideQuarter x = busy();
        TideQuarter looking = busy();
        for (int tick = 0; tick < 480; tick++) {
            due("gain(0, " + tick + ")", x.gain(0, tick), sun(looking.looks(0, tick), tick % 96 / 4));
        }
        TideQuarter y = busy();
        for (int f = 0; f < 4; f++) {
            y.turn(0, f);
            for (int tick = 9960; tick < 9999; tick++) {
                due("gain(0, " + tick + "), front " + f, y.gain(0, tick), sun(y.looks(f, tick), tick % 96 / 4));
            }
        }
    }

    private static void sums() {
        Checks.says(0, "SUM of a HOUSE: what it GAINS in n TICKS from one on.");
        int[] froms = {0, 25, 150, 270};
        for (int from : froms) {
            TideQuarter each = busy();
            TideQuarter whole = busy();
            int[] sum = new int[6];
            for (int n = 1; n <= 70; n++) {
                for (int h = 0; h < 6; h++) {
                    sum[h] += each.gain(h, from + n - 1);
                    due("sum(" + h + ", " + from + ", " + n + ")", whole.sum(h, from, n), sum[h]);
                }
            }
        }
    }

    private static void theText() {
        Checks.says(0, "THE TEXT of an ISLAND, from THE TAPE");
        TideQuarter x = new TideQuarter();
        x.feed('m', 1);
        x.feed('i' << 8 | 'l', 2);
        x.feed('l' << 16 | ' ' << 8 | '2', 3);
        due("count(3)", x.count(3), 6);
        due("island()", x.island(), 1);
        due("houseOf(0, 0)", x.houseOf(0, 0), 1);
        due("houseOf(0, 1)", x.houseOf(0, 1), 2);
        due("count(3)", x.count(3), 0);
        Checks.tell(x, "mill 1");
        x.wipe();
        island(x, "shed 3", 1);
        due("houseOf(1, 0), what was wiped isn't read", x.houseOf(1, 0), 2);
        Checks.says(0, "FAULT: the place (from 0) of the first byte of the first TOKEN that can't stand there (a NUMBER that may not be, another WORD, a byte that begins no TOKEN,");
        String[] good = {"", "wind 1 2;", "  wind 1 2 ;  ", "late 3;mill 1;", "ship 1 comes 2 stays 3 ; "};
        for (String ahead : good) {
            int place = ahead.length();
            TideQuarter y = new TideQuarter();
            // a number that may not be: its own first byte
            island(y, ahead + "flood 401", -1 - (place + 6));
            island(y, ahead + "flood   0401;x", -1 - (place + 8));
            island(y, ahead + "wind 4 10", -1 - (place + 5));
            island(y, ahead + "wind 3 10", -1 - (place + 7));
            island(y, ahead + "late 1 2 30 1", -1 - (place + 9));
            island(y, ahead + "mill 12345", -1 - (place + 5));
            // a number where a word or a sign is to be, and one that is missing
            island(y, ahead + "12", -1 - place);
            island(y, ahead + "mill 1 22", -1 - (place + 7));
            island(y, ahead + "ship 1 12 3", -1 - (place + 7));
            island(y, ahead + "mill; 1", -1 - (place + 4));
            // another word
            island(y, ahead + "floods 1", -1 - place);
            island(y, ahead + "flood nine", -1 - (place + 6));
            island(y, ahead + "flood 1 lengthy 7", -1 - (place + 8));
            island(y, ahead + "ship 1 goes 3", -1 - (place + 7));
            // a byte that begins no token, in a word, behind it and behind a number
            island(y, ahead + "Mill 1", -1 - place);
            island(y, ahead + "mi.ll 1", -1 - place);
            island(y, ahead + "mill .1", -1 - (place + 5));
            island(y, ahead + "mill 1.", -1 - (place + 6));
            island(y, ahead + "mill -1", -1 - (place + 5));
            due("status(-1)", y.status(-1), 0);
            due("count(0)", y.count(0), 0);
        }
        TideQuarter z = new TideQuarter();
        // of several faults the first
        island(z, "mill 9;mill 9;x", -6);
        island(z, "x;mill 9", -1);
        island(z, "mill 1;wind 9 9;", -13);
    }

    private static void orders() {
        Checks.says(0, "AN ORDER of all SHIPS: they go in one by one: each at the first TICK from COMES on (960 at most, likewise) from which it can LIE at a FRONT, a told QUAY alone,");
        // calm to 19 and from 23 to 69: front 0 looks north, then east
        TideQuarter x = new TideQuarter();
        x.ship(EAST, 0, 30);
        due("waits(0, 0), any quay", x.waits(0, 0), 23);
        due("waits(0, 1), any quay", x.waits(0, 1), 0);
        // the calm ahead of tide 0 is too short for quay 1
        int[] wait = {23, 173, 123, 73};
        for (int quay = 0; quay < 4; quay++) {
            x.quay(0, quay);
            due("waits(0, 0), quay " + quay, x.waits(0, 0), wait[quay]);
            due("waits(0, 1), quay " + quay, x.waits(0, 1), quay);
        }
        x.clear();
        x.ship(EAST, 0, 20);
        x.quay(0, 1);
        due("waits(0, 0), quay 1: in 20 ticks", x.waits(0, 0), 0);
        // one by one: the second lies behind the first, at once when it has gone
        TideQuarter y = Checks.still();
        int[] stays = {4, 7, 9};
        for (int s : stays) {
            y.ship(WEST, 100, s);
        }
        int gone = 0;
        for (int i = 0; i < 3; i++) {
            due("order(" + i + ")", y.order(i), i);
            due("waits(" + i + ", 0)", y.waits(i, 0), gone);
            due("waits(" + i + ", 1)", y.waits(i, 1), WEST);
            gone += stays[i];
        }
        due("order(-1)", y.order(-1), 4 + 11);
        y.clear();
        y.ship(WEST, 100, 4);
        y.ship(SOUTH, 100, 4);
        due("order(-1), at two fronts", y.order(-1), 0);
        Checks.says(28, "In THE BEST ORDER: of a SHIP what 0 its WAIT, 1 the FRONT");
        TideQuarter z = Checks.still();
        int[] many = {9, 3, 6};
        int[] waits = {9, 0, 3};
        int[] order = {1, 2, 0};
        for (int m : many) {
            z.ship(SOUTH, 50, m);
        }
        int sum = 0;
        for (int ship = 0; ship < 3; ship++) {
            due("order(" + ship + "), the shortest first", z.order(ship), order[ship]);
            due("waits(" + ship + ", 0)", z.waits(ship, 0), waits[ship]);
            due("waits(" + ship + ", 1)", z.waits(ship, 1), SOUTH);
            sum += waits[ship];
        }
        due("order(-1)", z.order(-1), sum);
    }

    private static void bridge() {
        Checks.says(0, "THE BRIDGE from a TICK: it can be fast as long as nothing is BETWEEN.");
        TideQuarter x = busy();
        TideQuarter between = busy();
        int[] is = new int[420];
        for (int tick = 0; tick < is.length; tick++) {
            is[tick] = between.between(tick);
        }
        for (int tick = 0; tick < 330; tick++) {
            int calm = 0;
            while (is[tick + calm] == 0) {
                calm++;
            }
            due("fast(" + tick + ")", x.fast(tick), calm);
        }
        due("off(0, 420)", x.off(0, 420), Arrays.stream(is).sum());
    }

    public static void main(String[] args) {
        turnsToTheRight();
        sides();
        ticks();
        quotients();
        setsByBits();
        allOthersTurn();
        fronts();
        kinds();
        gainOfHouse();
        sums();
        theText();
        orders();
        bridge();
        Checks.end();
    }
}
