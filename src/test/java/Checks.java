import java.io.IOException;
import java.nio.file.Files;
import java.nio.file.Path;
import java.util.ArrayList;
import java.util.List;
import java.util.function.Consumer;
import java.util.function.ToLongFunction;

/**
 * What the tests of the edges share: sentences of the document with the answers that are due under
 * them, and refused calls that may change nothing but what status() tells.
 */
final class Checks {
    static final int BEYOND = -1000000001;
    static final int FULL = -1000000002;
    static final int KIND = -1000000003;
    static final int NONE = -1000000004;
    static final int STATE = -1000000005;
    static final int MISSING = -1000000006;
    static final int SIZE = -1000000007;
    static final int ALL = (1 << 30) - 1;
    /** What a calendar with a day's number of ticks, or a span, could make wrap around. */
    static final int[] WIDE = {
        Integer.MIN_VALUE, Integer.MIN_VALUE + 1, Integer.MIN_VALUE + 959, Integer.MAX_VALUE, Integer.MAX_VALUE - 1,
        Integer.MAX_VALUE - 95, Integer.MAX_VALUE - 958, Integer.MAX_VALUE - 959, 1 << 30, -(1 << 30), 1 << 16, 1 << 24,
    };

    private static final Path DOCUMENT = Path.of("../shared/DOC.md");
    private static String document = null;
    private static String at = "";
    private static int checksHere = 1;
    private static int passed = 0;
    private static int failed = 0;

    private Checks() {
    }

    private static String plain(String text) {
        return text.replaceAll("\\s+", " ");
    }

    /** What follows is due by this sentence; it stands so in the document. */
    static void says(int promise, String sentence) {
        closeSentence();
        at = (promise == 0 ? "terms" : "promise " + promise) + ", '" + sentence + "'";
        checksHere = 0;
        if (document == null) {
            document = plain(read(DOCUMENT));
        }
        String head = "## Promise " + promise + ":";
        int from = promise == 0 ? 0 : document.indexOf(head);
        int till = promise == 0 ? document.indexOf("## Promise 1:") : document.indexOf("## ", from + head.length());
        if (from < 0 || till < from || !document.substring(from, till).contains(plain(sentence))) {
            fail("the document doesn't say so there");
        }
    }

    private static String read(Path path) {
        try {
            return Files.readString(path);
        } catch (IOException e) {
            fail(path + " can't be read: " + e);
            return "";
        }
    }

    private static void closeSentence() {
        if (checksHere == 0) {
            fail("nothing was checked");
        }
    }

    private static void fail(String what) {
        failed++;
        System.out.println(at + ": " + what);
    }

    static void due(String call, long got, long want) {
        checksHere++;
        if (got == want) {
            passed++;
        } else {
            fail(call + " answered " + got + ", due is " + want);
        }
    }

    /** A refused call: its finding, which status() counts once, and nothing else that changes. */
    static void refused(String name, Consumer<TideQuarter> start, ToLongFunction<TideQuarter> call, int finding) {
        TideQuarter without = started(start);
        TideQuarter with = started(start);
        due(name, call.applyAsLong(with), finding);
        for (int which = 0; which < 7; which++) {
            int more = which == BEYOND - finding ? 1 : 0;
            due("status(" + which + ") behind " + name, with.status(which), without.status(which) + more);
        }
        due("status(-1) behind " + name, with.status(-1), without.status(-1) + 1);
        samePicture(name, with, without);
    }

    /** A call that answers no finding, and changes nothing at all. */
    static void changesNothing(String name, Consumer<TideQuarter> start, ToLongFunction<TideQuarter> call, long want) {
        TideQuarter without = started(start);
        TideQuarter with = started(start);
        due(name, call.applyAsLong(with), want);
        for (int which = -1; which < 7; which++) {
            due("status(" + which + ") behind " + name, with.status(which), without.status(which));
        }
        samePicture(name, with, without);
    }

    static void samePicture(String name, TideQuarter with, TideQuarter without) {
        checksHere++;
        List<String> got = picture(with);
        List<String> want = picture(without);
        if (got.equals(want)) {
            passed++;
            return;
        }
        StringBuilder told = new StringBuilder();
        for (int i = 0; i < Math.max(got.size(), want.size()); i++) {
            String g = i < got.size() ? got.get(i) : "nothing";
            String w = i < want.size() ? want.get(i) : "nothing";
            told.append(g.equals(w) ? "" : "\n    " + g + " for " + w);
        }
        fail(name + " changed" + told);
    }

    private static TideQuarter started(Consumer<TideQuarter> start) {
        TideQuarter x = new TideQuarter();
        start.accept(x);
        return x;
    }

    /** All that can be seen of an object, but status(); the object can't be used behind it. */
    private static List<String> picture(TideQuarter x) {
        List<String> seen = new ArrayList<>();
        lookAt(x, "now", seen);
        for (int s = 0; s < 4; s++) {
            long was = 0;
            for (int i = 0; i <= 40 && was != MISSING && was != BEYOND; i++) {
                was = x.write(s, i, 0x0123456789abcdefL);
                seen.add("number " + i + " of sheet " + s + " is " + was);
            }
            seen.add("of 0123456789abcdef sheet " + s + " keeps " + x.write(s, 0, 0));
        }
        seen.add("feed: " + x.feed('e' << 24 | 'd' << 16 | ' ' << 8 | '1', 4));
        seen.add("island: " + x.island());
        lookAt(x, "behind the tape", seen);
        seen.add("undo: " + x.undo());
        lookAt(x, "undone", seen);
        seen.add("tear: " + x.tear());
        return seen;
    }

    private static void lookAt(TideQuarter x, String when, List<String> seen) {
        for (int what = 0; what < 5; what++) {
            seen.add(when + ", count(" + what + ") is " + x.count(what));
        }
        int[] middle = {20, 50, 3, 0};
        for (int what = 0; what < 4; what++) {
            int was = x.tides(what, middle[what]);
            x.tides(what, was);
            seen.add(when + ", tides(" + what + ") is " + was);
        }
        for (int what = 0; what < 3; what++) {
            int was = x.sets(what, 0);
            x.sets(what, was);
            seen.add(when + ", sets(" + what + ") is " + was);
        }
        for (int h = 0; h < 8; h++) {
            seen.add(when + ", house " + h + " is of kind " + x.houseOf(h, 0) + " with front " + x.houseOf(h, 1));
        }
        for (int s = 0; s < 6; s++) {
            seen.add(when + ", ship " + s + " has course " + x.shipOf(s, 0) + ", comes " + x.shipOf(s, 1) + ", stays "
                + x.shipOf(s, 2) + ", quay " + x.shipOf(s, 3) + ", waits " + x.waits(s, 0));
        }
        seen.add(when + ", order(-1) is " + x.order(-1) + ", order(0) is " + x.order(0));
    }

    /** A new object, as it is. */
    static void bare(TideQuarter x) {
    }

    /** Something of everything, another state kept, a text begun; one sheet is missing. */
    static void mixed(TideQuarter x) {
        x.tides(0, 7);
        x.tides(1, 40);
        x.tides(2, 2);
        x.tides(3, 5);
        x.sets(0, 10);
        x.sets(1, 16);
        x.sets(2, 68);
        x.wind(2, 6);
        x.house(1, 3);
        x.house(4, 2);
        x.ship(1, 30, 12);
        x.image();
        x.tides(0, 9);
        x.tides(3, 4);
        x.sets(0, 8);
        x.wind(1, 4);
        x.turn(0, 0);
        x.house(5, 1);
        x.ship(2, 50, 7);
        x.ship(0, 10, 30);
        x.quay(1, 3);
        x.sheet(0, 8, 3);
        x.sheet(1, 16, 2);
        x.sheet(2, 64, 4);
        x.write(0, 0, 1);
        x.write(0, 1, -1);
        x.write(0, 2, 3);
        x.write(1, 1, -300);
        x.write(2, 3, 1L << 40);
        tell(x, "wind 3 5;mill 2;sh");
    }

    /** As many houses, ships, bytes and numbers as may be. */
    static void full(TideQuarter x) {
        for (int h = 0; h < 8; h++) {
            x.house(h % 6, h % 4);
        }
        for (int s = 0; s < 6; s++) {
            x.ship(s % 4, 9 * s, 1 + 6 * s);
        }
        x.image();
        x.turn(7, 0);
        x.quay(5, 2);
        for (int s = 0; s < 4; s++) {
            x.sheet(s, s == 0 ? 8 : s == 1 ? 16 : 64, 40);
            x.write(s, 39, 2 + s);
        }
        tell(x, "flood 30 period 60;wind 1 2;late 1 2 3" + " ".repeat(81) + "4");
    }

    static void tell(TideQuarter x, String text) {
        for (int from = 0; from < text.length(); from += 4) {
            int till = Math.min(from + 4, text.length());
            int bytes = 0;
            for (int i = from; i < till; i++) {
                bytes = bytes << 8 | text.charAt(i);
            }
            x.feed(bytes, till - from);
        }
    }

    /** A new object whose tides up to 29 all fail: nothing turns till tide 30 ends at 1523. */
    static TideQuarter still() {
        TideQuarter x = new TideQuarter();
        x.sets(1, ALL);
        return x;
    }

    static void end() {
        closeSentence();
        System.out.println(passed + " passed, " + failed + " failed");
        if (failed != 0) {
            System.exit(1);
        }
    }
}
