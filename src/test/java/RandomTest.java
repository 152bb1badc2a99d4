/**
 * Runs of calls, drawn by a counter of its own (the same ones each time), on TideQuarter and on
 * Slow: their answers are to be the same. An argument takes the number of runs.
 */
public final class RandomTest {
    /** So few that with what a draw itself asks no object comes beyond its 512 calls. */
    private static final int CALLS = 128;
    private static final int[] WILD = {-2, -1, 5, 6, 41, 97, 961, 10000, 1 << 30, Integer.MIN_VALUE, Integer.MAX_VALUE};
    private static final String[] WORDS = {
        "flood", "period", "length", "late", "fails", "halves", "house", "mill", "shed", "inn", "sails", "dorm",
        "ship", "comes", "stays", "quay", "wind", "shi", "ships", "a", "A", "!", "\t", "\u00e9", "\u0000", "{", "/", ":", "`",
    };

    private static long seed = 1;
    private static TideQuarter x;
    private static Slow y;
    private static String call;

    private static int below(int n) {
        seed = seed * 6364136223846793005L + 1442695040888963407L;
        return (int) ((seed >>> 33) % n);
    }

    private static boolean oneOf(int n) {
        return below(n) == 0;
    }

    /** Mostly from least to most, often the two edges, sometimes one beyond or a wild one. */
    private static int draw(int least, int most) {
        int how = below(60);
        if (how == 0) {
            return least - 1;
        }
        if (how == 1) {
            return most + 1;
        }
        if (how == 2) {
            return WILD[below(WILD.length)];
        }
        if (how < 6) {
            return least;
        }
        if (how < 9) {
            return most;
        }
        return least + below(most - least + 1);
    }

    private static int tick() {
        return oneOf(3) ? draw(0, 9999) : draw(0, 1700);
    }

    private static int span() {
        return oneOf(2) ? draw(1, 960) : draw(1, 60);
    }

    private static int anyHouse() {
        return oneOf(30) ? draw(0, 7) : draw(0, Math.max(0, x.count(0) - 1));
    }

    private static int anyShip() {
        return oneOf(30) ? draw(0, 5) : draw(0, Math.max(0, x.count(1) - 1));
    }

    private static int anySet() {
        int how = below(10);
        if (how == 0) {
            return below(2) == 0 ? (1 << 30) - 1 : 1 << 29;
        }
        if (how == 1) {
            return 1 << 30 - below(3) | below(1 << 29);
        }
        if (how < 5) {
            return 0;
        }
        int set = below(1 << 30);
        return how < 8 ? set & below(1 << 30) & below(1 << 30) : set;
    }

    private static String numbered(int least, int most) {
        int v = oneOf(25) ? draw(least, most) : least + below(most - least + 1);
        String zeros = oneOf(30) ? "00" : "";
        return " " + zeros + Math.abs((long) v);
    }

    private static String item() {
        switch (below(8)) {
            case 0:
                return "flood" + numbered(0, 400) + (oneOf(2) ? " period" + numbered(16, 400) : "")
                    + (oneOf(2) ? " length" + numbered(1, 7) : "");
            case 1:
            case 2:
                StringBuilder set = new StringBuilder(WORDS[3 + below(3)]);
                int last = -1;
                do {
                    last += 1 + below(10);
                    set.append(last > 29 && !oneOf(5) ? "" : " " + last);
                } while (!oneOf(4) && last < 30);
                return set.toString();
            case 3:
            case 4:
                return WORDS[6 + below(6)] + numbered(0, 3);
            case 5:
            case 6:
                return "ship" + numbered(0, 3) + " comes" + numbered(0, oneOf(4) ? 9999 : 200) + " stays" + numbered(1, 40)
                    + (oneOf(2) ? " quay" + numbered(0, 3) : "");
            default:
                return "wind" + numbered(0, 3) + numbered(0, 9);
        }
    }

    private static String text() {
        StringBuilder text = new StringBuilder(oneOf(9) ? " " : "");
        int items = 1 + below(4);
        for (int i = 0; i < items; i++) {
            text.append(i == 0 ? "" : oneOf(2) ? ";" : " ; ").append(item());
        }
        if (oneOf(4)) {
            int place = below(text.length() + 1);
            int how = below(4);
            if (how == 0) {
                text.insert(place, WORDS[below(WORDS.length)]);
            } else if (how == 1) {
                text.insert(place, " " + WORDS[below(WORDS.length)] + " ");
            } else if (how == 2) {
                text.setLength(place);
            } else if (place < text.length()) {
                text.deleteCharAt(place);
            }
        }
        return text.toString();
    }

    private static boolean same(String told, long got, long want) {
        call = told + " answered " + got + ", Slow's is " + want;
        return got == want;
    }

    private static boolean feedText() {
        String text = text();
        boolean same = true;
        for (int from = 0; same && from < text.length(); from += 4) {
            int till = Math.min(from + 4, text.length());
            int bytes = below(2) == 0 ? -1 : 0;
            for (int i = from; i < till; i++) {
                bytes = bytes << 8 | text.charAt(i);
            }
            same = same("feed(" + bytes + ", " + (till - from) + ")", x.feed(bytes, till - from), y.feed(bytes, till - from));
        }
        return same && same("island() of '" + text + "'", x.island(), y.island());
    }

    private static boolean tideCall(int which) {
        int a = draw(0, 3);
        int b = draw(0, 3);
        int t = tick();
        switch (which) {
            case 0:
                int[] least = {0, 16, 1, 0};
                int[] most = {400, 400, 7, 8};
                int v = a < 0 || a > 3 ? 20 : oneOf(2) && a < 2 ? draw(least[a], 40) : draw(least[a], most[a]);
                return same("tides(" + a + ", " + v + ")", x.tides(a, v), y.tides(a, v));
            case 1:
                int what = draw(0, 2);
                int set = anySet();
                return same("sets(" + what + ", " + set + ")", x.sets(what, set), y.sets(what, set));
            case 2:
                int force = draw(0, 9);
                return same("wind(" + a + ", " + force + ")", x.wind(a, force), y.wind(a, force));
            case 3:
                int k = draw(0, 199);
                int w = draw(0, 1);
                return same("tide(" + k + ", " + w + ")", x.tide(k, w), y.tide(k, w));
            case 4:
                return same("turned(" + t + ")", x.turned(t), y.turned(t));
            case 5:
                return same("between(" + t + ")", x.between(t), y.between(t));
            case 6:
                return same("looks(" + a + ", " + t + ")", x.looks(a, t), y.looks(a, t));
            case 7:
                return same("front(" + a + ", " + t + ")", x.front(a, t), y.front(a, t));
            default:
                return same("when(" + a + ", " + b + ", " + t + ")", x.when(a, b, t), y.when(a, b, t));
        }
    }

    private static boolean houseCall(int which) {
        int h = anyHouse();
        int kind = draw(0, 5);
        int f = draw(0, 3);
        int t = tick();
        int n = span();
        switch (which) {
            case 0:
                return same("house(" + kind + ", " + f + ")", x.house(kind, f), y.house(kind, f));
            case 1:
                int what = draw(0, 1);
                return same("houseOf(" + h + ", " + what + ")", x.houseOf(h, what), y.houseOf(h, what));
            case 2:
                return same("turn(" + h + ", " + f + ")", x.turn(h, f), y.turn(h, f));
            case 3:
                return same("as(" + h + ", " + kind + ")", x.as(h, kind), y.as(h, kind));
            case 4:
                return same("gain(" + h + ", " + t + ")", x.gain(h, t), y.gain(h, t));
            case 5:
                return same("sum(" + h + ", " + t + ", " + n + ")", x.sum(h, t, n), y.sum(h, t, n));
            case 6:
                return same("best(" + h + ", " + t + ", " + n + ")", x.best(h, t, n), y.best(h, t, n));
            case 7:
                return same("sunniest(" + t + ", " + n + ")", x.sunniest(t, n), y.sunniest(t, n));
            case 8:
                int hour = draw(0, 23);
                return same("days(" + h + ", " + f + ", " + hour + ", " + t + ")", x.days(h, f, hour, t), y.days(h, f, hour, t));
            default:
                return same("exchange(" + t + ", " + n + ")", x.exchange(t, n), y.exchange(t, n));
        }
    }

    private static boolean shipCall(int which) {
        int s = anyShip();
        int f = draw(0, 3);
        int t = tick();
        switch (which) {
            case 0:
                int course = oneOf(2) ? 0 : f;
                int comes = oneOf(5) ? t : draw(0, 150);
                int stays = oneOf(2) ? draw(1, 40) : draw(1, 12);
                return same("ship(" + course + ", " + comes + ", " + stays + ")", x.ship(course, comes, stays), y.ship(course, comes, stays));
            case 1:
                int what = draw(0, 3);
                return same("shipOf(" + s + ", " + what + ")", x.shipOf(s, what), y.shipOf(s, what));
            case 2:
                int v = draw(-1, 3);
                return same("quay(" + s + ", " + v + ")", x.quay(s, v), y.quay(s, v));
            case 3:
                return oneOf(4) ? same("clear()", x.clear(), y.clear()) : shipCall(0);
            case 4:
                int near = t;
                if (oneOf(2)) {
                    int entry = x.entry(s, 0);
                    near = entry < 0 ? t : entry + draw(-3, 3);
                    if (!same("entry(" + s + ", 0)", entry, y.entry(s, 0))) {
                        return false;
                    }
                }
                return same("lies(" + s + ", " + f + ", " + near + ")", x.lies(s, f, near), y.lies(s, f, near));
            case 5:
                int e = draw(0, 1);
                return same("entry(" + s + ", " + e + ")", x.entry(s, e), y.entry(s, e));
            case 6:
                int i = draw(-1, 5);
                return same("order(" + i + ")", x.order(i), y.order(i));
            default:
                int w = draw(0, 1);
                return same("waits(" + s + ", " + w + ")", x.waits(s, w), y.waits(s, w));
        }
    }

    private static boolean sheetCall(int which) {
        int s = draw(0, oneOf(2) ? 1 : 3);
        int i = draw(0, oneOf(2) ? 5 : 39);
        int g = draw(1, 96);
        int f = draw(0, 3);
        int t = tick();
        switch (which) {
            case 0:
                int[] widths = {8, 16, 64, 8, 8, 16, 64, 0, 32, -1};
                int b = widths[below(widths.length)];
                int n = oneOf(2) ? draw(0, 40) : draw(0, 9);
                return same("sheet(" + s + ", " + b + ", " + n + ")", x.sheet(s, b, n), y.sheet(s, b, n));
            case 1:
                long v = oneOf(2) ? draw(-1, 4) : (long) below(1 << 30) << below(34) | below(1 << 30);
                v = oneOf(3) ? -v : v;
                return same("write(" + s + ", " + i + ", " + v + ")", x.write(s, i, v), y.write(s, i, v));
            case 2:
                int u = oneOf(3) ? s : draw(0, 3);
                int to = draw(0, oneOf(2) ? 5 : 40);
                int many = draw(0, oneOf(2) ? 5 : 40);
                return same("copy(" + s + ", " + i + ", " + u + ", " + to + ", " + many + ")",
                    x.copy(s, i, u, to, many), y.copy(s, i, u, to, many));
            case 3:
                return same("lays(" + s + ")", x.lays(s), y.lays(s));
            case 4:
                return same("calendar(" + s + ", " + f + ", " + t + ", " + g + ")", x.calendar(s, f, t, g), y.calendar(s, f, t, g))
                    && same("read(" + s + ", " + f + ", " + t + ", " + g + ")", x.read(s, f, t, g), y.read(s, f, t, g));
            default:
                return same("read(" + s + ", " + f + ", " + t + ", " + g + ")", x.read(s, f, t, g), y.read(s, f, t, g));
        }
    }

    private static boolean otherCall(int which) {
        int t = tick();
        int n = span();
        switch (which) {
            case 0:
                return same("fast(" + t + ")", x.fast(t), y.fast(t));
            case 1:
                return same("off(" + t + ", " + n + ")", x.off(t, n), y.off(t, n));
            case 2:
                int bytes = below(1 << 30) << below(3);
                int many = draw(1, 4);
                return same("feed(" + bytes + ", " + many + ")", x.feed(bytes, many), y.feed(bytes, many));
            case 3:
                return same("wipe()", x.wipe(), y.wipe());
            case 4:
                return same("image()", x.image(), y.image());
            case 5:
                return same("undo()", x.undo(), y.undo());
            case 6:
                return oneOf(3) ? same("tear()", x.tear(), y.tear()) : otherCall(4);
            case 7:
                int what = draw(0, 4);
                return same("count(" + what + ")", x.count(what), y.count(what));
            default:
                int w = draw(-1, 6);
                return same("status(" + w + ")", x.status(w), y.status(w));
        }
    }

    private static boolean anyCall() {
        int how = below(40);
        if (how < 9) {
            return tideCall(below(9));
        }
        if (how < 19) {
            return houseCall(below(10));
        }
        if (how < 28) {
            return shipCall(below(8));
        }
        if (how < 34) {
            return sheetCall(below(6));
        }
        return how < 36 ? feedText() : otherCall(below(9));
    }

    private static boolean countsAgree() {
        for (int which = -1; which < 7; which++) {
            if (!same("status(" + which + ")", x.status(which), y.status(which))) {
                return false;
            }
        }
        return true;
    }

    public static void main(String[] args) {
        int runs = args.length > 0 ? Integer.parseInt(args[0]) : 400;
        int failed = 0;
        for (int run = 1; run <= runs && failed < 5; run++) {
            seed = run;
            x = new TideQuarter();
            y = new Slow();
            StringBuilder log = new StringBuilder();
            boolean same = true;
            for (int i = 0; same && i < CALLS; i++) {
                same = anyCall();
                log.append("  ").append(call).append('\n');
            }
            same = same && countsAgree();
            if (!same) {
                failed++;
                System.out.println("run " + run + " differs at " + call + "; the calls:\n" + log);
            }
        }
        System.out.println((runs - failed) + " passed, " + failed + " failed");
        if (failed != 0) {
            System.exit(1);
        }
    }
}
