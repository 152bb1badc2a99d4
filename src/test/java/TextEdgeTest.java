/** The sentences of the document that name an edge of THE TAPE and of the text of an island: promises 31 to 33. */
public final class TextEdgeTest {
    private static final String HOUSES_8 = "house 0;house 0;house 0;house 0;house 0;house 0;house 0;house 0";
    private static final String SHIPS_3 = "ship 0 comes 0 stays 1;ship 0 comes 0 stays 1;ship 0 comes 0 stays 1";

    /** How many items a text has, on a new object. */
    private static void items(String text, int want) {
        island(new TideQuarter(), text, want);
    }

    /** The place of the fault in a text; behind it an object of each sort is as it was. */
    private static void fault(String text, int place) {
        island(new TideQuarter(), text, -1 - place);
        Checks.changesNothing("island() of '" + text + "'", TextEdgeTest::mixedAndWiped, x -> toldNow(x, text), -1 - place);
    }

    private static void mixedAndWiped(TideQuarter x) {
        Checks.mixed(x);
        x.wipe();
    }

    private static long toldNow(TideQuarter x, String text) {
        Checks.tell(x, text);
        return x.island();
    }

    private static void island(TideQuarter x, String text, int want) {
        Checks.tell(x, text);
        Checks.due("count(3) of '" + text + "'", x.count(3), text.length());
        Checks.due("island() of '" + text + "'", x.island(), want);
        Checks.due("count(3) behind '" + text + "'", x.count(3), 0);
        Checks.due("status(-1) behind '" + text + "'", x.status(-1), 0);
    }

    private static void tape() {
        Checks.says(0, "from THE TAPE (bytes, at most 120)");
        for (int n = 1; n <= 4; n++) {
            TideQuarter x = new TideQuarter();
            int used = 0;
            while (used + n <= 120) {
                used += n;
                Checks.due("feed(32, " + n + ")", x.feed(0x20202020, n), used);
            }
            Checks.due("count(3)", x.count(3), 120);
            Checks.due("feed(32, " + n + "), too many", x.feed(0x20202020, n), Checks.FULL);
            Checks.due("wipe()", x.wipe(), 120);
            Checks.due("feed(32, " + n + "), wiped", x.feed(0x20202020, n), n);
        }
        Checks.says(31, "THE TAPE gets the n lowest bytes of a number behind it, the highest of these first (n 1 to 4): how many it has. BEYOND: n. FULL.");
        for (int room = 0; room <= 4; room++) {
            for (int n = 1; n <= 4; n++) {
                TideQuarter x = new TideQuarter();
                Checks.tell(x, "mill 3;wind 2 5" + " ".repeat(105 - room));
                Checks.due("feed with room for " + room, x.feed(0x20202020, n), n <= room ? 120 - room + n : Checks.FULL);
                Checks.due("count(3)", x.count(3), n <= room ? 120 - room + n : 120 - room);
                Checks.due("status(1)", x.status(1), n <= room ? 0 : 1);
                Checks.due("island()", x.island(), 2);
                Checks.due("feed() to the empty tape", x.feed(0x20202020, n), n);
            }
        }
        Checks.refused("feed(0, 1) to 120 bytes", Checks::full, x -> x.feed('9', 1), Checks.FULL);
        Checks.refused("feed(0, 4) to 120 bytes", Checks::full, x -> x.feed(0x39393939, 4), Checks.FULL);
        // 'inn 1' told four ways, the bytes above those that count are 'z' or have all bits
        int[][] told = {
            {0x7a7a7a69, 1, 0xffff6e6e, 2, 0x7a7a2031, 2}, {0x696e6e20, 4, 0xffffff31, 1},
            {0xff696e6e, 3, 0xffff2031, 2}, {0x00000069, 1, 0x6e6e2031, 4},
        };
        for (int[] t : told) {
            TideQuarter x = new TideQuarter();
            for (int i = 0; i < t.length; i += 2) {
                x.feed(t[i], t[i + 1]);
            }
            Checks.due("count(3)", x.count(3), 5);
            Checks.due("island()", x.island(), 1);
            Checks.due("houseOf(0, 0)", x.houseOf(0, 0), 3);
            Checks.due("houseOf(0, 1)", x.houseOf(0, 1), 1);
        }
        Checks.says(32, "THE TAPE is empty: how many it had.");
        TideQuarter x = new TideQuarter();
        Checks.due("wipe() of none", x.wipe(), 0);
        Checks.due("wipe() of none again", x.wipe(), 0);
        Checks.due("feed(0, 1)", x.feed(0, 1), 1);
        Checks.due("wipe() of one", x.wipe(), 1);
        Checks.tell(x, "z".repeat(120));
        Checks.due("wipe() of all", x.wipe(), 120);
        island(x, "mill 2", 1);
        Checks.due("wipe() behind island()", x.wipe(), 0);
    }

    private static void tokens() {
        Checks.says(0, "TOKENS, each as long as can be: WORDS (letters a to z), NUMBERS (digits, 9999 at most), SIGN ; ; blanks may stand between.");
        items("flood20period400length7", 1);
        items("ship0comes0stays1quay0;wind0 0;late0 1 29;dorm3", 4);
        items("  wind   1    2  ;   mill  1  ", 2);
        fault("wind12", 4);
        fault("floodlength 1", 0);
        fault("flood 20 periodlength 16", 9);
        fault("millhouse 1", 0);
        fault("late 1 2fails 3", 8);
        fault("mill 1 1", 7);
        fault("mill 11", 5);
        fault("ship 0 comes 0 stays 1 1", 23);
        items("ship 0 comes 9999 stays 1", 1);
        fault("ship 0 comes 10000 stays 1", 13);
        items("ship 0 comes 0009999 stays 0040 quay 03", 1);
        fault("ship 0 comes 99990 stays 1", 13);
        // numbers that 32 or 64 bits would turn into 1
        for (String wide : new String[] {"4294967297", "18446744073709551617", "1" + "0".repeat(90) + "1", "2147483648", "65537", "257"}) {
            fault("mill " + wide, 5);
        }
        items("mill " + "0".repeat(114) + "1", 1);
        fault("mill " + "0".repeat(114) + "4", 5);
        int[] others = {0, 1, 9, 10, 13, 31, 33, 46, 47, 58, 60, 64, 65, 90, 91, 95, 96, 123, 127, 128, 160, 176, 187, 225, 255};
        for (int b : others) {
            fault((char) b + "mill 1", 0);
            fault("mill" + (char) b + "1", 4);
            fault("mill 1" + (char) b, 6);
            fault("mi" + (char) b + "ll 1", 0);
            fault("late 1" + (char) b + "2", 6);
            fault("mill 1" + (char) b + ";mill 1", 6);
        }
        for (String word : new String[] {"a", "z", "floodz", "zflood", "aflood", "flooda", "floo", "lood", "comes", "stays", "quay",
            "period", "length", "lag", "lates", "fail", "half", "halve", "winds", "ships", "mil", "mills", "houses", "dor", "wi", "blank"}) {
            fault(word + " 1", 0);
            fault("mill 1;" + word + " 1", 7);
        }
    }

    private static void itemsTold() {
        Checks.says(0, "TEXT: ITEM { ; ITEM }.");
        items("late0;late0;late0;late0;late0;late0;late0;late0;late0;late0;late0;late0;late0;late0;late0;late0;late0;late0;late0;late0", 20);
        items("wind 0 0" + " ".repeat(112), 1);
        items(" ".repeat(112) + "wind 0 0", 1);
        fault(";", 0);
        fault(";mill 1", 0);
        fault("mill 1;;mill 1", 7);
        fault("mill 1 mill 1", 7);
        fault("1", 0);
        fault("1 mill", 0);
        Checks.says(0, "ITEM: flood, a NUMBER (0 to 400), perhaps period and a NUMBER (16 to 400), perhaps length and a NUMBER (1 to 7);");
        number("flood ", 0, 400, "");
        number("flood ", 0, 400, " period 16 length 1");
        number("flood 9 period ", 16, 400, "");
        number("flood 9 length ", 1, 7, "");
        number("flood 9 period 16 length ", 1, 7, "");
        fault("flood 9 length 1 period 16", 17);
        fault("flood 9 period 16 period 16", 18);
        fault("flood 9 length 1 length 1", 17);
        fault("flood 9 flood 9", 8);
        fault("flood period 16", 6);
        fault("flood 9 period length 1", 15);
        fault("flood 9 9", 8);
        fault("flood 9 lag 1", 8);
        Checks.says(0, "late, fails or halves, one or more NUMBERS (0 to 29, each above the one ahead): THE SET is these;");
        for (String set : new String[] {"late", "fails", "halves"}) {
            int w = set.length();
            number(set + " ", 0, 29, "");
            number(set + " 5 ", 6, 29, "");
            number(set + " 28 ", 29, 29, "");
            fault(set + " 29 29", w + 4);
            fault(set + " 29 30", w + 4);
            fault(set + " 29 0", w + 4);
            fault(set + " 0 0", w + 3);
            fault(set + " 0 1 1", w + 5);
            fault(set + " 0 1 2 1", w + 7);
            fault(set + ";", w);
            fault(set + " " + set + " 1", w + 1);
            fault(set + " 1 " + set + " 1", w + 3);
            items(set + " 0 1 2 3 4 5 6 7 8 9 10 11 12 13 14 15 16 17 18 19 20 21 22 23 24 25 26 27 28 29", 1);
        }
        moreItems();
    }

    private static void moreItems() {
        Checks.says(0, "the name of a KIND (house mill shed inn sails dorm) and a NUMBER (FRONT): a new HOUSE;");
        for (String name : new String[] {"house", "mill", "shed", "inn", "sails", "dorm"}) {
            number(name + " ", 0, 3, "");
            fault(name + ";" + name + " 1", name.length());
            fault(name + " " + name, name.length() + 1);
            fault(name + " ship", name.length() + 1);
        }
        Checks.says(0, "ship, a NUMBER (COURSE), comes and a NUMBER (0 to 9999), stays and a NUMBER (1 to 40), perhaps quay and a NUMBER (FRONT): a new SHIP;");
        number("ship ", 0, 3, " comes 0 stays 1");
        number("ship 1 comes ", 0, 9999, " stays 1");
        number("ship 1 comes 0 stays ", 1, 40, "");
        number("ship 1 comes 0 stays ", 1, 40, " quay 1");
        number("ship 1 comes 0 stays 1 quay ", 0, 3, "");
        fault("ship comes 0 stays 1", 5);
        fault("ship 1 stays 1 comes 0", 7);
        fault("ship 1 quay 1 comes 0 stays 1", 7);
        fault("ship 1 2", 7);
        fault("ship 1 comes stays 1", 13);
        fault("ship 1 comes 0 quay 1", 15);
        fault("ship 1 comes 0 comes 0", 15);
        fault("ship 1 comes 0 stays quay", 21);
        fault("ship 1 comes 0 stays 1 stays 1", 23);
        fault("ship 1 comes 0 stays 1 quay 1 quay 1", 30);
        fault("ship 1 comes 0 stays 1 quay any", 28);
        fault("ship;", 4);
        Checks.says(0, "wind, a NUMBER (SIDE), a NUMBER (FORCE).");
        number("wind ", 0, 3, " 1");
        number("wind 1 ", 0, 9, "");
        fault("wind 1 1 1", 9);
        fault("wind north 1", 5);
        fault("wind 1;1", 6);
    }

    /** A text with a number: the least and the most may stand there, others are its fault. */
    private static void number(String ahead, int least, int most, String behind) {
        items(ahead + least + behind, 1);
        items(ahead + most + behind, 1);
        items(ahead + "000" + most + behind, 1);
        if (least > 0) {
            fault(ahead + (least - 1) + behind, ahead.length());
            fault(ahead + 0 + behind, ahead.length());
        }
        fault(ahead + (most + 1) + behind, ahead.length());
        fault(ahead + (most + 256) + behind, ahead.length());
        fault(ahead + 10000 + behind, ahead.length());
        fault(ahead + (4294967296L + most) + behind, ahead.length());
        fault(ahead + "-" + most + behind, ahead.length());
        fault(ahead + "x" + most + behind, ahead.length());
    }

    private static void tooEarly() {
        Checks.says(0, "or how many bytes there are if it ends too early.");
        fault("", 0);
        fault(" ", 1);
        fault(" ".repeat(120), 120);
        String[] cut = {
            "flood", "flood ", "flood 9 period", "flood 9 period  ", "flood 9 length", "flood 9 period 16 length", "late", "fails", "halves ",
            "house", "mill", "shed", "inn", "sails", "dorm  ", "ship", "ship 1", "ship 1 ", "ship 1 comes", "ship 1 comes 0",
            "ship 1 comes 0 stays", "ship 1 comes 0 stays 1 quay", "wind", "wind 1", "wind 1 ", "mill 1;", "mill 1; ",
        };
        for (String text : cut) {
            fault(text, text.length());
            fault("wind 3 3;" + text, text.length() + 9);
            fault(" ".repeat(120 - text.length()) + text, 120);
            fault(text + " ".repeat(120 - text.length()), 120);
        }
        fault("mill 1" + " ".repeat(113) + ";", 120);
        fault("mill 1" + " ".repeat(113) + "1", 119);
        items("late 1" + " ".repeat(113) + "9", 1);
        fault("late 1" + " ".repeat(113) + "1", 119);
    }

    private static void ninth() {
        Checks.says(0, "the name of a KIND for a 9th HOUSE, ship for a 7th: its own)");
        items(HOUSES_8, 8);
        island(new TideQuarter(), HOUSES_8 + ";house 0", -65);
        island(new TideQuarter(), HOUSES_8 + "; dorm", -66);
        island(new TideQuarter(), HOUSES_8 + ";inn 9", -65);
        TideQuarter x = new TideQuarter();
        island(x, HOUSES_8, 8);
        for (String name : new String[] {"house", "mill", "shed", "inn", "sails", "dorm"}) {
            island(x, name + " 0", -1);
            island(x, name, -1);
            island(x, "wind 1 1; " + name + " 4", -11);
        }
        island(x, "wind 1 1; ship 0 comes 0 stays 1", 2);
        Checks.due("count(0)", x.count(0), 8);
        TideQuarter seven = new TideQuarter();
        for (int h = 0; h < 7; h++) {
            seven.house(0, 0);
        }
        island(seven, "mill 1;mill 2", -8);
        Checks.due("count(0), none came", seven.count(0), 7);
        island(seven, "mill 1", 1);
        Checks.due("houseOf(7, 0)", seven.houseOf(7, 0), 1);
        island(seven, "mill 1", -1);
        TideQuarter y = new TideQuarter();
        island(y, SHIPS_3, 3);
        island(y, SHIPS_3 + ";ship 0 comes 0 stays 1", -70);
        Checks.due("count(1), none came", y.count(1), 3);
        island(y, SHIPS_3, 3);
        Checks.due("count(1)", y.count(1), 6);
        island(y, "ship 0 comes 0 stays 1", -1);
        island(y, "ship", -1);
        island(y, "wind 0 0;ship 4", -10);
        island(y, "mill 3", 1);
        y.clear();
        island(y, "ship 0 comes 0 stays 1", 1);
    }

    private static void itemsCome() {
        Checks.says(33, "THE TAPE is THE TEXT of an ISLAND, whose ITEMS come to what there is, and empty then: how many ITEMS.");
        TideQuarter x = new TideQuarter();
        x.house(5, 3);
        x.ship(2, 5, 6);
        x.tides(3, 7);
        island(x, "flood 400", 1);
        Checks.due("FLOOD", x.tides(0, 400), 400);
        Checks.due("PERIOD, not told", x.tides(1, 60), 50);
        Checks.due("LENGTH, not told", x.tides(2, 4), 3);
        island(x, "flood 0 length 7", 1);
        Checks.due("FLOOD", x.tides(0, 0), 0);
        Checks.due("PERIOD, not told", x.tides(1, 60), 60);
        Checks.due("LENGTH", x.tides(2, 7), 7);
        island(x, "flood 1 period 16", 1);
        Checks.due("PERIOD", x.tides(1, 16), 16);
        Checks.due("LENGTH, not told", x.tides(2, 7), 7);
        island(x, "flood 2 period 400 length 1;flood 3 period 16", 2);
        Checks.due("FLOOD, the latest", x.tides(0, 3), 3);
        Checks.due("PERIOD, the latest", x.tides(1, 16), 16);
        Checks.due("LENGTH", x.tides(2, 1), 1);
        Checks.due("LAG, no text tells it", x.tides(3, 7), 7);
        String[] names = {"late", "fails", "halves"};
        for (int set = 0; set < 3; set++) {
            x.sets(set, 6);
            island(x, names[set] + " 0 29", 1);
            Checks.due("the set is these", x.sets(set, 6), 1 | 1 << 29);
            island(x, names[set] + " 4;" + names[set] + " 3", 2);
            Checks.due("the set is the latest", x.sets(set, 0), 8);
        }
        island(x, "mill 0;dorm 3;ship 3 comes 9999 stays 40;ship 0 comes 0 stays 1 quay 3;ship 1 comes 2 stays 3 quay 0;wind 3 0", 6);
        int[][] houses = {{5, 3}, {1, 0}, {5, 3}};
        for (int h = 0; h < 3; h++) {
            Checks.due("houseOf(" + h + ", 0)", x.houseOf(h, 0), houses[h][0]);
            Checks.due("houseOf(" + h + ", 1)", x.houseOf(h, 1), houses[h][1]);
        }
        int[][] ships = {{2, 5, 6, -1}, {3, 9999, 40, -1}, {0, 0, 1, 3}, {1, 2, 3, 0}};
        for (int s = 0; s < 4; s++) {
            for (int what = 0; what < 4; what++) {
                Checks.due("shipOf(" + s + ", " + what + ")", x.shipOf(s, what), ships[s][what]);
            }
        }
        Checks.due("the SIDE of WIND", x.count(4), 3);
        Checks.due("FORCE", x.count(2), 0);
        island(x, "wind 0 9", 1);
        Checks.due("the SIDE of WIND", x.count(4), 0);
        Checks.due("FORCE", x.count(2), 9);
    }

    private static void faultsChangeNothing() {
        Checks.says(33, "With a FAULT: -1 less its place (nothing changes but that THE TAPE is empty; no finding).");
        fault("flood 1 period 30 length 2;late 5;fails 6;halves 7;house 1;ship 1 comes 2 stays 3 quay 1;wind 3 9;x", 98);
        fault("wind 2 2;wind 3 9;", 18);
        fault("flood 300 period 17 lengths 1", 20);
        fault("late 1 2 3 3", 11);
        // there are three of each: the fourth ship, and the sixth house, are too many
        String ships = SHIPS_3 + ";ship 0 comes 0 stays 1";
        Checks.changesNothing("island(), four ships", TextEdgeTest::mixedAndWiped, x -> toldNow(x, ships), -70);
        Checks.changesNothing("island(), eight houses", TextEdgeTest::mixedAndWiped, x -> toldNow(x, HOUSES_8), -41);
        TideQuarter x = new TideQuarter();
        island(x, "x", -1);
        island(x, "mill 1", 1);
        Checks.changesNothing("island(), nothing told", Checks::bare, TideQuarter::island, -1);
        Checks.changesNothing("island(), nothing told", TextEdgeTest::mixedAndWiped, TideQuarter::island, -1);
    }

    public static void main(String[] args) {
        tape();
        tokens();
        itemsTold();
        tooEarly();
        ninth();
        itemsCome();
        faultsChangeNothing();
        Checks.end();
    }
}
