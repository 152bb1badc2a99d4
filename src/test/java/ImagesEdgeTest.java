/** The sentences of the document that name an edge of images, counts and findings: promises 40 to 44. */
public final class ImagesEdgeTest {
    private static void undo(TideQuarter x, int want) {
        Checks.due("undo()", x.undo(), want);
    }

    private static void status(TideQuarter x, int which, int want) {
        Checks.due("status(" + which + ")", x.status(which), want);
    }

    private static void count(TideQuarter x, int what, int want) {
        Checks.due("count(" + what + ")", x.count(what), want);
    }

    private static void kept() {
        Checks.says(40, "All that section 1 tells (THE TAPE not) is kept: 1.");
        TideQuarter x = new TideQuarter();
        Checks.due("image(), of a new object", x.image(), 1);
        Checks.mixed(x);
        Checks.due("image() a third time", x.image(), 1);
        undo(x, 3);
        TideQuarter bare = new TideQuarter();
        bare.image();
        everything(bare);
        undo(bare, 0);
        // as a new object, but for the tape, the sheets and the findings
        TideQuarter fresh = new TideQuarter();
        for (TideQuarter y : new TideQuarter[] {bare, fresh}) {
            count(y, 0, 0);
            count(y, 1, 0);
            count(y, 2, 3);
            count(y, 4, 0);
            Checks.due("FLOOD", y.tides(0, 1), 20);
            Checks.due("PERIOD", y.tides(1, 17), 50);
            Checks.due("LENGTH", y.tides(2, 2), 3);
            Checks.due("LAG", y.tides(3, 1), 0);
            Checks.due("LATE", y.sets(0, 1), 0);
            Checks.due("FAILS", y.sets(1, 1), 0);
            Checks.due("HALVES", y.sets(2, 1), 0);
            Checks.due("house()", y.house(0, 0), 0);
            Checks.due("ship()", y.ship(0, 0, 1), 0);
            Checks.due("shipOf(0, 3)", y.shipOf(0, 3), -1);
        }
        count(bare, 3, 6);
        Checks.due("write(0, 0, 0), a sheet isn't kept", bare.write(0, 0, 0), 5);
        Checks.due("a call changes no image that is kept", laterChanges(), 8);
    }

    private static void everything(TideQuarter x) {
        x.tides(0, 400);
        x.tides(1, 400);
        x.tides(2, 7);
        x.tides(3, 8);
        for (int what = 0; what < 3; what++) {
            x.sets(what, Checks.ALL);
        }
        x.wind(3, 9);
        for (int h = 0; h < 8; h++) {
            x.house(5, 3);
        }
        for (int s = 0; s < 6; s++) {
            x.quay(x.ship(3, 9999, 40), 3);
        }
        x.sheet(0, 8, 1);
        x.write(0, 0, 5);
        Checks.tell(x, "mill 1");
    }

    /** Eight houses are kept; what is done behind it, by each call that changes something, is taken back. */
    private static int laterChanges() {
        TideQuarter x = new TideQuarter();
        everything(x);
        x.image();
        x.wipe();
        Checks.tell(x, "flood 1 period 20 length 2;late 1;fails 2;halves 3;wind 0 0");
        Checks.due("island()", x.island(), 5);
        x.sheet(1, 8, 8);
        x.lays(1);
        x.clear();
        x.ship(0, 0, 1);
        for (int again = 0; again < 2; again++) {
            undo(x, 8);
            for (int h = 0; h < 8; h++) {
                Checks.due("houseOf(" + h + ", 0)", x.houseOf(h, 0), 5);
                Checks.due("houseOf(" + h + ", 1)", x.houseOf(h, 1), 3);
            }
            int[] ship = {3, 9999, 40, 3};
            for (int s = 0; s < 6; s++) {
                for (int what = 0; what < 4; what++) {
                    Checks.due("shipOf(" + s + ", " + what + ")", x.shipOf(s, what), ship[what]);
                }
            }
            int[] most = {400, 400, 7, 8};
            for (int what = 0; what < 4; what++) {
                Checks.due("tides(" + what + ")", x.tides(what, most[what] - 1), most[what]);
            }
            for (int what = 0; what < 3; what++) {
                Checks.due("sets(" + what + ")", x.sets(what, 0), Checks.ALL);
            }
            count(x, 2, 9);
            count(x, 4, 3);
            x.turn(7, 0);
            x.quay(5, -1);
            x.wind(0, 0);
        }
        return x.undo();
    }

    private static void undone() {
        Checks.says(41, "It becomes what was kept latest (which stays): how many HOUSES. NONE: nothing is kept.");
        TideQuarter x = new TideQuarter();
        undo(x, Checks.NONE);
        x.image();
        undo(x, 0);
        x.house(0, 0);
        x.house(0, 0);
        undo(x, 0);
        x.house(1, 1);
        x.image();
        x.house(1, 1);
        x.image();
        x.house(1, 1);
        undo(x, 2);
        undo(x, 2);
        count(x, 0, 2);
        Checks.due("house(), the third again", x.house(0, 0), 2);
        undo(x, 2);
        for (int h = 2; h < 8; h++) {
            x.house(h - 2, 0);
        }
        x.image();
        undo(x, 8);
        Checks.due("house(), a 9th", x.house(0, 0), Checks.FULL);
        x.tear();
        undo(x, Checks.NONE);
        count(x, 0, 8);
        Checks.refused("undo(), nothing kept", Checks::bare, TideQuarter::undo, Checks.NONE);
        Checks.says(42, "Nothing is kept: 1 if something was, else 0.");
        TideQuarter y = new TideQuarter();
        Checks.due("tear(), nothing kept", y.tear(), 0);
        y.image();
        y.image();
        y.undo();
        Checks.due("tear(), two images", y.tear(), 1);
        Checks.due("tear() again", y.tear(), 0);
        undo(y, Checks.NONE);
        y.house(0, 0);
        y.image();
        undo(y, 1);
        Checks.due("tear() once more", y.tear(), 1);
        Checks.changesNothing("tear(), nothing kept", Checks::bare, TideQuarter::tear, 0);
    }

    private static void counts() {
        Checks.says(43, "0 HOUSES, 1 SHIPS, 2 FORCE, 3 bytes of THE TAPE, 4 the SIDE of WIND.");
        TideQuarter x = new TideQuarter();
        for (int what = 0; what < 5; what++) {
            count(x, what, what == 2 ? 3 : 0);
        }
        Checks.full(x);
        count(x, 0, 8);
        count(x, 1, 6);
        count(x, 3, 120);
        for (int side = 0; side < 4; side++) {
            x.wind(side, 9 - side);
            count(x, 2, 9 - side);
            count(x, 4, side);
        }
        x.wind(0, 0);
        count(x, 2, 0);
        count(x, 4, 0);
        x.house(0, 0);
        x.ship(0, 0, 1);
        x.feed(0, 1);
        count(x, 0, 8);
        count(x, 1, 6);
        count(x, 3, 120);
    }

    private static void findings() {
        Checks.says(44, "How many acts answered a finding ever (undo() takes none back): which -1: all, 0 to 6: BEYOND to SIZE. BEYOND (counted from then on): another one.");
        TideQuarter x = new TideQuarter();
        Checks.due("status(7)", x.status(7), Checks.BEYOND);
        status(x, 0, 1);
        status(x, -1, 1);
        Checks.due("status(-2)", x.status(-2), Checks.BEYOND);
        status(x, 0, 2);
        status(x, -1, 2);
        x.image();
        x.turned(-1);
        x.turned(10000);
        Checks.full(x);
        x.house(0, 0);
        x.ship(0, 0, 1);
        x.feed(0, 1);
        x.as(0, 1);
        x.as(0, 5);
        x.copy(0, 0, 1, 0, 0);
        x.undo();
        x.undo();
        x.tear();
        x.undo();
        x.front(0, 20);
        x.sheet(2, 0, 0);
        x.lays(2);
        x.sheet(2, 0, -1);
        x.sheet(3, 64, -1);
        x.wipe();
        x.island();
        int[] want = {4, 3, 3, 2, 0, 1, 2};
        for (int which = 0; which < 7; which++) {
            status(x, which, want[which]);
        }
        status(x, -1, 15);
        // numbers that look like findings are none
        TideQuarter y = new TideQuarter();
        y.sheet(0, 64, 1);
        y.write(0, 0, Checks.BEYOND);
        Checks.due("write(0, 0, 0), what it was", y.write(0, 0, 0), Checks.BEYOND);
        y.looks(0, 20);
        y.island();
        status(y, -1, 0);
        Checks.says(0, "FINDINGS are answers below -1000000000: -1000000001 BEYOND, -1000000002 FULL, -1000000003 KIND, -1000000004 NONE, -1000000005 STATE, -1000000006 MISSING, -1000000007 SIZE (in longs, too).");
        Checks.due("write(4, 0, 0)", new TideQuarter().write(4, 0, 0), -1000000001L);
        Checks.due("write(0, 0, 0)", new TideQuarter().write(0, 0, 0), -1000000006L);
    }

    /** As many calls as an object is used for. */
    private static void manyCalls() {
        Checks.says(0, "An object is used for at most 512 calls after it has been made; what later calls answer is free.");
        TideQuarter x = new TideQuarter();
        for (int i = 0; i < 511; i++) {
            x.turned(-1 - i);
        }
        status(x, -1, 511);
        TideQuarter y = new TideQuarter();
        for (int i = 0; i < 102; i++) {
            y.image();
            y.ship(0, 0, 1);
            y.order(-1);
            y.undo();
            y.feed(0, 1);
        }
        status(y, -1, 0);
        count(y, 3, 102);
    }

    public static void main(String[] args) {
        kept();
        undone();
        counts();
        findings();
        manyCalls();
        Checks.end();
    }
}
