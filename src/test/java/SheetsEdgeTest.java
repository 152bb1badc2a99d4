/** The sentences of the document that name an edge of sheets: promises 34 to 39. */
public final class SheetsEdgeTest {
    private static final int[] WIDTHS = {8, 16, 64};

    private static void write(TideQuarter x, int s, int i, long v, long was) {
        Checks.due("write(" + s + ", " + i + ", " + v + ")", x.write(s, i, v), was);
    }

    private static void sheet(TideQuarter x, int s, int bits, int n, int want) {
        Checks.due("sheet(" + s + ", " + bits + ", " + n + ")", x.sheet(s, bits, n), want);
    }

    private static void copy(TideQuarter x, int s, int from, int t, int to, int n, int want) {
        Checks.due("copy(" + s + ", " + from + ", " + t + ", " + to + ", " + n + ")", x.copy(s, from, t, to, n), want);
    }

    private static void lays(TideQuarter x, int s, int want) {
        Checks.due("lays(" + s + ")", x.lays(s), want);
    }

    private static void read(TideQuarter x, int s, int front, int tick, int g, int want) {
        Checks.due("read(" + s + ", " + front + ", " + tick + ", " + g + ")", x.read(s, front, tick, g), want);
    }

    /** A sheet with these numbers. */
    private static void lay(TideQuarter x, int s, int bits, long... numbers) {
        x.sheet(s, bits, numbers.length);
        for (int i = 0; i < numbers.length; i++) {
            x.write(s, i, numbers[i]);
        }
    }

    /** The numbers of a sheet, and that there are no more. */
    private static void holds(TideQuarter x, int s, long... numbers) {
        for (int i = 0; i < numbers.length; i++) {
            long was = x.write(s, i, 0);
            Checks.due("number " + i + " of sheet " + s, was, numbers[i]);
            x.write(s, i, was);
        }
        Checks.due("number " + numbers.length + " of sheet " + s, x.write(s, numbers.length, 0), Checks.BEYOND);
    }

    private static void sheets() {
        Checks.says(0, "SHEETS 0 to 3 are rows of at most 40 numbers of 8, 16 or 64 bits, or MISSING (at first).");
        TideQuarter x = new TideQuarter();
        for (int s = 0; s < 4; s++) {
            write(x, s, 0, 1, Checks.MISSING);
            lays(x, s, Checks.MISSING);
            read(x, s, 0, 0, 1, Checks.MISSING);
            Checks.due("calendar(" + s + ", 0, 0, 1)", x.calendar(s, 0, 0, 1), Checks.MISSING);
            copy(x, s, 0, s, 0, 0, Checks.MISSING);
        }
        Checks.due("status(5)", x.status(5), 20);
        Checks.says(34, "A sheet has n numbers, all 0, of 8, 16 or 64 bits; bits 0: it is MISSING: n (0 if it is MISSING).");
        for (int s = 0; s < 4; s++) {
            for (int bits : WIDTHS) {
                TideQuarter y = new TideQuarter();
                sheet(y, s, bits, 40, 40);
                holds(y, s, new long[40]);
                write(y, s, 39, 5, 0);
                write(y, s, 40, 5, Checks.BEYOND);
                sheet(y, s, bits, 39, 39);
                holds(y, s, new long[39]);
                sheet(y, s, bits, 40, 40);
                write(y, s, 39, 0, 0);
                sheet(y, s, bits, 1, 1);
                write(y, s, 0, -1, 0);
                write(y, s, 1, -1, Checks.BEYOND);
                sheet(y, s, bits, 1, 1);
                write(y, s, 0, -1, 0);
                sheet(y, s, bits, 0, 0);
                write(y, s, 0, 1, Checks.BEYOND);
                lays(y, s, 0);
                for (int n : new int[] {40, 1, 0}) {
                    sheet(y, s, bits, 3, 3);
                    write(y, s, 2, 9, 0);
                    sheet(y, s, 0, n, 0);
                    write(y, s, 0, 1, Checks.MISSING);
                }
                sheet(y, s, bits, 3, 3);
                holds(y, s, 0, 0, 0);
            }
        }
        Checks.says(34, "SIZE: n is below 0 (also with bits 0). BEYOND: n is above 40 (also with bits 0).");
        for (int bits : new int[] {0, 8, 16, 64}) {
            TideQuarter y = new TideQuarter();
            lay(y, 1, 16, 7, 8, 9);
            sheet(y, 1, bits, -1, Checks.SIZE);
            sheet(y, 1, bits, Integer.MIN_VALUE, Checks.SIZE);
            sheet(y, 1, bits, 41, Checks.BEYOND);
            sheet(y, 1, bits, Integer.MAX_VALUE, Checks.BEYOND);
            holds(y, 1, 7, 8, 9);
            Checks.due("status(6)", y.status(6), 2);
            Checks.due("status(0)", y.status(0), 3);
            Checks.refused("sheet(2, " + bits + ", -1)", Checks::mixed, z -> z.sheet(2, bits, -1), Checks.SIZE);
            Checks.refused("sheet(2, " + bits + ", 41)", Checks::mixed, z -> z.sheet(2, bits, 41), Checks.BEYOND);
        }
    }

    private static void lowestBits() {
        Checks.says(35, "Number i of a sheet becomes v (its lowest bits): what it was.");
        long[][] told = {
            {127, 127, 127}, {128, -128, 128}, {129, -127, 129}, {255, -1, 255}, {256, 0, 256}, {257, 1, 257}, {-1, -1, -1},
            {-128, -128, -128}, {-129, 127, -129}, {-256, 0, -256}, {-257, -1, -257}, {32767, -1, 32767}, {32768, 0, -32768},
            {65535, -1, -1}, {65536, 0, 0}, {65537, 1, 1}, {-32768, 0, -32768}, {-32769, -1, 32767}, {1L << 32, 0, 0},
            {(1L << 32) + 3, 3, 3}, {Long.MAX_VALUE, -1, -1}, {Long.MIN_VALUE, 0, 0}, {Long.MIN_VALUE + 1, 1, 1},
            {-1000000001L, -1, 13823}, {-1000000006L, -6, 13818},
        };
        TideQuarter x = new TideQuarter();
        for (int s = 0; s < 3; s++) {
            x.sheet(s, WIDTHS[s], 40);
            long[] was = {0, 0};
            for (long[] t : told) {
                long kept = s == 2 ? t[0] : t[s + 1];
                write(x, s, 0, t[0], was[0]);
                write(x, s, 39, t[0], was[1]);
                was[0] = kept;
                was[1] = kept;
            }
            write(x, s, 1, 0, 0);
            write(x, s, 38, 0, 0);
        }
        Checks.due("status(-1)", x.status(-1), 0);
    }

    private static void copies() {
        Checks.says(36, "n numbers of a sheet from one on come to another one from one on (as they all were): n.");
        TideQuarter x = new TideQuarter();
        lay(x, 0, 8, 1, 2, 3, 4, 5);
        lay(x, 1, 8, 11, 12, 13);
        lay(x, 2, 64, 1L << 40, -1, 7);
        lay(x, 3, 64, 0, 0, 0, 0);
        copy(x, 0, 0, 1, 0, 0, 0);
        copy(x, 0, 5, 1, 3, 0, 0);
        holds(x, 1, 11, 12, 13);
        copy(x, 0, 4, 1, 0, 1, 1);
        holds(x, 1, 5, 12, 13);
        copy(x, 0, 0, 1, 2, 1, 1);
        holds(x, 1, 5, 12, 1);
        copy(x, 0, 2, 1, 0, 3, 3);
        holds(x, 1, 3, 4, 5);
        holds(x, 0, 1, 2, 3, 4, 5);
        copy(x, 1, 0, 0, 2, 3, 3);
        holds(x, 0, 1, 2, 3, 4, 5);
        copy(x, 2, 0, 3, 1, 3, 3);
        holds(x, 3, 0, 1L << 40, -1, 7);
        copy(x, 0, 0, 0, 1, 4, 4);
        holds(x, 0, 1, 1, 2, 3, 4);
        copy(x, 0, 1, 0, 0, 4, 4);
        holds(x, 0, 1, 2, 3, 4, 4);
        copy(x, 0, 0, 0, 0, 5, 5);
        holds(x, 0, 1, 2, 3, 4, 4);
        copy(x, 0, 5, 0, 5, 0, 0);
        TideQuarter y = new TideQuarter();
        y.sheet(0, 16, 40);
        y.sheet(3, 16, 40);
        y.write(0, 0, 4);
        y.write(0, 39, 5);
        copy(y, 0, 0, 3, 0, 40, 40);
        write(y, 3, 0, 0, 4);
        write(y, 3, 39, 0, 5);
        copy(y, 0, 0, 0, 1, 39, 39);
        write(y, 0, 1, 0, 4);
        copy(y, 3, 40, 0, 40, 0, 0);
        y.sheet(1, 16, 0);
        copy(y, 1, 0, 0, 0, 0, 0);
        copy(y, 0, 0, 1, 0, 0, 0);
        copiesRefused();
    }

    private static void copiesRefused() {
        Checks.says(36, "BEYOND: one has not so many, or from, to or n is below 0.");
        int most = Integer.MAX_VALUE;
        int least = Integer.MIN_VALUE;
        int[][] told = {
            {0, 0, 4}, {0, 1, 3}, {0, 3, 1}, {3, 0, 3}, {5, 0, 1}, {4, 0, 2}, {6, 0, 0}, {0, 4, 0}, {6, 4, 0}, {-1, 0, 1}, {-1, 0, 0},
            {0, -1, 1}, {0, -1, 0}, {0, 0, -1}, {1, 1, -1}, {5, 3, -1}, {-1, -1, -1}, {most, 0, 1}, {0, most, 1}, {1, 0, most},
            {0, 1, most}, {most, most, most}, {most, 0, 0}, {0, most, 0}, {least, 0, 0}, {0, least, 0}, {0, 0, least}, {most, 0, least},
            {least, least, least}, {1 << 30, 0, 1 << 30}, {5, 3, 1 << 31}, {most - 3, 0, 5}, {0, most - 1, 3}, {-5, 0, 5}, {-4, -4, 5},
        };
        for (int[] t : told) {
            Checks.refused("copy(0, " + t[0] + ", 1, " + t[1] + ", " + t[2] + ") of 5 to 3", SheetsEdgeTest::fiveAndThree,
                x -> x.copy(0, t[0], 1, t[1], t[2]), Checks.BEYOND);
        }
        Checks.refused("copy(1, 0, 0, 0, 4) of 3 to 5", SheetsEdgeTest::fiveAndThree, x -> x.copy(1, 0, 0, 0, 4), Checks.BEYOND);
        Checks.refused("copy(1, 0, 0, 3, 3) of 3 to 5", SheetsEdgeTest::fiveAndThree, x -> x.copy(1, 0, 0, 3, 3), Checks.BEYOND);
        Checks.refused("copy(0, 1, 0, 0, 5) over itself", SheetsEdgeTest::fiveAndThree, x -> x.copy(0, 1, 0, 0, 5), Checks.BEYOND);
        Checks.refused("copy(0, 0, 0, 1, 5) over itself", SheetsEdgeTest::fiveAndThree, x -> x.copy(0, 0, 0, 1, 5), Checks.BEYOND);
    }

    private static void fiveAndThree(TideQuarter x) {
        Checks.mixed(x);
        lay(x, 0, 8, 1, 2, 3, 4, 5);
        lay(x, 1, 8, 11, 12, 13);
    }

    private static TideQuarter housed(int many) {
        TideQuarter x = new TideQuarter();
        for (int h = 0; h < many; h++) {
            x.house(5, 2);
        }
        return x;
    }

    private static void fronts(TideQuarter x, int... fronts) {
        for (int h = 0; h < fronts.length; h++) {
            Checks.due("houseOf(" + h + ", 1)", x.houseOf(h, 1), fronts[h]);
            Checks.due("houseOf(" + h + ", 0)", x.houseOf(h, 0), 5);
        }
        Checks.due("count(0)", x.count(0), fronts.length);
    }

    private static void laysTold() {
        Checks.says(37, "Numbers of a sheet are FRONTS of HOUSES 0, 1, .. (those that are none, or stand for no HOUSE, are left out): how many came.");
        TideQuarter x = housed(4);
        lay(x, 0, 8, 0, 1, 2, 3);
        lays(x, 0, 4);
        fronts(x, 0, 1, 2, 3);
        lay(x, 0, 8, 4, -1, 3, 127);
        lays(x, 0, 1);
        fronts(x, 0, 1, 3, 3);
        lay(x, 0, 8, 256 + 2, 255, 4 - 256, 128);
        lays(x, 0, 1);
        fronts(x, 2, 1, 3, 3);
        lay(x, 1, 16, 256 + 3, 65536 + 3, 32767, -32768);
        lays(x, 1, 1);
        fronts(x, 2, 3, 3, 3);
        lay(x, 2, 64, 1L << 32, (1L << 32) + 1, Long.MIN_VALUE, Long.MAX_VALUE);
        lays(x, 2, 0);
        fronts(x, 2, 3, 3, 3);
        lay(x, 2, 64, Long.MIN_VALUE + 1, 65536, 256, 0);
        lays(x, 2, 1);
        fronts(x, 2, 3, 3, 0);
        lay(x, 3, 16, 1, 1, 1, 1, 1, 1);
        lays(x, 3, 4);
        fronts(x, 1, 1, 1, 1);
        lay(x, 3, 16, 0, 3);
        lays(x, 3, 2);
        fronts(x, 0, 3, 1, 1);
        lay(x, 3, 16, 7, 3, 9, 2, 2);
        lays(x, 3, 2);
        fronts(x, 0, 3, 1, 2);
        lay(x, 3, 64);
        lays(x, 3, 0);
        fronts(x, 0, 3, 1, 2);
        lay(x, 3, 64, 0, 0, 0, 0);
        lays(x, 3, 4);
        fronts(x, 0, 0, 0, 0);
        TideQuarter none = housed(0);
        none.sheet(0, 8, 40);
        lays(none, 0, 0);
        TideQuarter eight = housed(8);
        eight.sheet(0, 8, 40);
        eight.write(0, 7, 3);
        eight.write(0, 8, 1);
        lays(eight, 0, 8);
        fronts(eight, 0, 0, 0, 0, 0, 0, 0, 3);
        lay(eight, 1, 8, 9, 9, 9, 9, 9, 9, 9, 1, 1);
        lays(eight, 1, 1);
        fronts(eight, 0, 0, 0, 0, 0, 0, 0, 1);
        Checks.due("write(1, 0, 0), as it was", eight.write(1, 0, 0), 9);
        Checks.due("status(-1)", eight.status(-1) + x.status(-1) + none.status(-1), 0);
        Checks.refused("lays(3), missing", Checks::mixed, y -> y.lays(3), Checks.MISSING);
    }

    private static void calendars() {
        Checks.says(38, "A calendar: numbers of a sheet become the SIDES (-1: nowhere) to which a FRONT looks from a TICK on, each g TICKS (1 to 96) behind the one ahead: how many.");
        TideQuarter x = new TideQuarter();
        for (int s = 0; s < 3; s++) {
            lay(x, s, WIDTHS[s], 5, 5, 5, 5, 5, 5);
            Checks.due("calendar(" + s + ", 3, 18, 1)", x.calendar(s, 3, 18, 1), 6);
            holds(x, s, 3, 3, -1, -1, -1, 0);
            read(x, s, 3, 18, 1, 0);
            Checks.due("calendar(" + s + ", 0, 23, 50)", x.calendar(s, 0, 23, 50), 6);
            holds(x, s, 1, 2, 3, 0, 1, 2);
            Checks.due("calendar(" + s + ", 0, 0, 96)", x.calendar(s, 0, 0, 96), 6);
            holds(x, s, 0, 2, 0, 2, 0, 2);
        }
        TideQuarter y = new TideQuarter();
        for (int bits : WIDTHS) {
            y.sheet(3, bits, 40);
            Checks.due("calendar(3, 1, 9999, 96)", y.calendar(3, 1, 9999, 96), 40);
            for (int i = 0; i < 40; i++) {
                int tick = 9999 + 96 * i;
                int rest = (tick - 20) % 50;
                int quarters = (tick - 23) / 50 + 1;
                write(y, 3, i, 77, rest < 3 ? -1 : (1 + quarters) % 4);
            }
            Checks.due("calendar(3, 1, 0, 1)", y.calendar(3, 1, 0, 1), 40);
            write(y, 3, 19, 77, 1);
            write(y, 3, 20, 77, -1);
            write(y, 3, 22, 77, -1);
            write(y, 3, 23, 77, 2);
            write(y, 3, 39, 77, 2);
        }
        lay(y, 0, 8);
        Checks.due("calendar(0, 0, 0, 1), no numbers", y.calendar(0, 0, 0, 1), 0);
        read(y, 0, 0, 0, 1, 0);
        lay(y, 0, 8, 9);
        Checks.due("calendar(0, 3, 9999, 96), one number", y.calendar(0, 3, 9999, 96), 1);
        holds(y, 0, 3);
        TideQuarter half = new TideQuarter();
        half.sets(2, Checks.ALL);
        lay(half, 0, 8, 7, 7, 7, 7);
        Checks.due("calendar(0, 0, 1427, 96)", half.calendar(0, 0, 1427, 96), 4);
        holds(half, 0, -1, 3, 0, 2);
        readings();
    }

    private static void readings() {
        Checks.says(39, "THE READER: numbers of a sheet are such a calendar: 0 if all are right, else 1 and the place of the first that isn't.");
        for (int bits : WIDTHS) {
            TideQuarter x = new TideQuarter();
            x.sheet(1, bits, 40);
            x.calendar(1, 2, 9, 7);
            read(x, 1, 2, 9, 7, 0);
            for (int i = 39; i >= 0; i--) {
                long was = x.write(1, i, 4);
                read(x, 1, 2, 9, 7, i + 1);
                x.write(1, i, was == -1 ? 0 : -1);
                read(x, 1, 2, 9, 7, i + 1);
            }
            read(x, 1, 3, 9, 7, 1);
            lay(x, 1, bits, 2, -1, 3);
            read(x, 1, 2, 19, 3, 0);
            read(x, 1, 2, 19, 2, 0);
            read(x, 1, 2, 19, 1, 3);
            read(x, 1, 2, 19, 4, 2);
            read(x, 1, 2, 18, 4, 0);
            read(x, 1, 2, 20, 4, 1);
            read(x, 1, 1, 18, 4, 1);
        }
        TideQuarter wide = new TideQuarter();
        long[] high = {1L << 8, 1L << 16, 1L << 32, 1L << 63, -256};
        for (long h : high) {
            lay(wide, 0, 64, 2 + h, 2);
            read(wide, 0, 2, 0, 1, 1);
            lay(wide, 0, 64, 2, 2 + h);
            read(wide, 0, 2, 0, 1, 2);
        }
        lay(wide, 0, 64, 255, 65535, 4294967295L);
        read(wide, 0, 2, 20, 1, 1);
        lay(wide, 0, 64, -1, -1, 4294967295L);
        read(wide, 0, 2, 20, 1, 3);
        lay(wide, 0, 8, 255, -1, 65535);
        read(wide, 0, 2, 20, 1, 0);
        Checks.changesNothing("read(0, 0, 0, 1)", Checks::mixed, x -> x.read(0, 0, 0, 1), 1);
        Checks.refused("read(3, 0, 0, 1), missing", Checks::mixed, x -> x.read(3, 0, 0, 1), Checks.MISSING);
    }

    public static void main(String[] args) {
        sheets();
        lowestBits();
        copies();
        laysTold();
        calendars();
        Checks.end();
    }
}
