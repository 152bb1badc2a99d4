import java.util.ArrayList;
import java.util.Arrays;
import java.util.List;

/**
 * A second TideQuarter, told as slowly and as near to the document's words as can be: it walks
 * through the tides from tick 0 on, looks at each tick by itself and tries all orders.
 */
final class Slow {
    static final int BEYOND = -1000000001;
    static final int FULL = -1000000002;
    static final int KIND = -1000000003;
    static final int NONE = -1000000004;
    static final int MISSING = -1000000006;
    static final int SIZE = -1000000007;
    private static final int TICKS = 14500;
    private static final List<String> KINDS = List.of("house", "mill", "shed", "inn", "sails", "dorm");

    /** All that section 1 tells. */
    private static final class Land {
        int[] told = {20, 50, 3, 0};
        int[] sets = {0, 0, 0};
        int side = 0;
        int force = 3;
        List<int[]> houses = new ArrayList<>();
        List<int[]> ships = new ArrayList<>();

        Land twin() {
            Land t = new Land();
            t.told = told.clone();
            t.sets = sets.clone();
            t.side = side;
            t.force = force;
            for (int[] h : houses) {
                t.houses.add(h.clone());
            }
            for (int[] s : ships) {
                t.ships.add(s.clone());
            }
            return t;
        }
    }

    private Land land = new Land();
    private Land kept = null;
    private String tape = "";
    private final long[][] sheets = new long[4][];
    private final int[] bits = new int[4];
    private final int[] found = new int[7];

    private int[] turnedRow = null;
    private boolean[] betweenRow = null;

    private int no(int finding) {
        found[-1000000001 - finding]++;
        return finding;
    }

    private static boolean in(int v, int least, int most) {
        return v >= least && v <= most;
    }

    private boolean has(int set, int k) {
        return k < 30 && (land.sets[set] >> k & 1) == 1;
    }

    private int begins(int k) {
        return land.told[0] + k * land.told[1] + (has(0, k) ? land.told[3] : 0);
    }

    /** Walks through the tides once and writes down what each tick has. */
    private void walk() {
        if (turnedRow != null) {
            return;
        }
        turnedRow = new int[TICKS];
        betweenRow = new boolean[TICKS];
        List<Integer> halves = new ArrayList<>();
        int[] turnsAt = new int[TICKS + 500];
        for (int k = 0; begins(k) < TICKS; k++) {
            int ends = begins(k) + land.told[2];
            if (has(1, k)) {
                continue;
            }
            if (has(2, k)) {
                halves.add(begins(k));
                continue;
            }
            turnsAt[ends] += 1 + halves.size();
            for (int from : halves) {
                Arrays.fill(betweenRow, from, Math.min(TICKS, ends), true);
            }
            halves.clear();
            Arrays.fill(betweenRow, begins(k), Math.min(TICKS, ends), true);
        }
        for (int from : halves) {
            Arrays.fill(betweenRow, from, TICKS, true);
        }
        int turned = 0;
        for (int t = 0; t < TICKS; t++) {
            turned += turnsAt[t];
            turnedRow[t] = turned;
        }
    }

    private boolean isBetween(int t) {
        walk();
        return betweenRow[t];
    }

    private int side(int front, int t) {
        walk();
        return betweenRow[t] ? -1 : (front + turnedRow[t]) % 4;
    }

    int tides(int what, int v) {
        int[] least = {0, 16, 1, 0};
        int[] most = {400, 400, 7, 8};
        if (!in(what, 0, 3) || !in(v, least[what], most[what])) {
            return no(BEYOND);
        }
        turnedRow = null;
        int was = land.told[what];
        land.told[what] = v;
        return was;
    }

    int sets(int what, int set) {
        if (!in(what, 0, 2) || set < 0 || set >= 1 << 30) {
            return no(BEYOND);
        }
        turnedRow = null;
        int was = land.sets[what];
        land.sets[what] = set;
        return was;
    }

    int wind(int side, int force) {
        if (!in(side, 0, 3) || !in(force, 0, 9)) {
            return no(BEYOND);
        }
        int was = land.force;
        land.side = side;
        land.force = force;
        return was;
    }

    int tide(int k, int what) {
        if (!in(k, 0, 199) || !in(what, 0, 1)) {
            return no(BEYOND);
        }
        return begins(k) + (what == 1 ? land.told[2] : 0);
    }

    private static boolean tick(int t) {
        return in(t, 0, 9999);
    }

    int turned(int t) {
        if (!tick(t)) {
            return no(BEYOND);
        }
        walk();
        return turnedRow[t];
    }

    int between(int t) {
        return !tick(t) ? no(BEYOND) : isBetween(t) ? 1 : 0;
    }

    int looks(int front, int t) {
        return !in(front, 0, 3) || !tick(t) ? no(BEYOND) : side(front, t);
    }

    int front(int side, int t) {
        if (!in(side, 0, 3) || !tick(t)) {
            return no(BEYOND);
        }
        for (int f = 0; f < 4; f++) {
            if (side(f, t) == side) {
                return f;
            }
        }
        return no(NONE);
    }

    int when(int front, int side, int t) {
        if (!in(front, 0, 3) || !in(side, 0, 3) || !tick(t)) {
            return no(BEYOND);
        }
        for (int d = 0; d < 960; d++) {
            if (side(front, t + d) == side) {
                return t + d;
            }
        }
        return no(NONE);
    }

    int house(int kind, int front) {
        if (!in(kind, 0, 5) || !in(front, 0, 3)) {
            return no(BEYOND);
        }
        if (land.houses.size() == 8) {
            return no(FULL);
        }
        land.houses.add(new int[] {kind, front});
        return land.houses.size() - 1;
    }

    private boolean isHouse(int h) {
        return in(h, 0, land.houses.size() - 1);
    }

    int houseOf(int h, int what) {
        return !isHouse(h) || !in(what, 0, 1) ? no(BEYOND) : land.houses.get(h)[what];
    }

    int turn(int h, int v) {
        if (!isHouse(h) || !in(v, 0, 3)) {
            return no(BEYOND);
        }
        int was = land.houses.get(h)[1];
        land.houses.get(h)[1] = v;
        return was;
    }

    int as(int h, int kind) {
        if (!isHouse(h) || !in(kind, 0, 5)) {
            return no(BEYOND);
        }
        int own = land.houses.get(h)[0];
        boolean fits = own == kind || kind == 0 || own == 4 && kind == 1 || own == 5 && kind == 3;
        return fits ? land.houses.get(h)[1] : no(KIND);
    }

    private int gainOf(int kind, int front, int t) {
        int hour = t % 96 / 4;
        int side = side(front, t);
        int house = side == 1 && in(hour, 6, 11) || side == 2 && in(hour, 9, 15) || side == 3 && in(hour, 12, 18) ? 1 : 0;
        int mill = side >= 0 && side == land.side ? 2 : 0;
        int inn = house == 1 && hour >= 12 ? 2 : house;
        return new int[] {house, mill, 1 - house, inn, land.force * mill, hour < 9 ? 3 * inn : 0}[kind];
    }

    private int sumOf(int kind, int front, int t, int n) {
        int sum = 0;
        for (int d = 0; d < n; d++) {
            sum += gainOf(kind, front, t + d);
        }
        return sum;
    }

    int gain(int h, int t) {
        return !isHouse(h) || !tick(t) ? no(BEYOND) : gainOf(land.houses.get(h)[0], land.houses.get(h)[1], t);
    }

    int sum(int h, int t, int n) {
        if (!isHouse(h) || !tick(t) || !in(n, 1, 960)) {
            return no(BEYOND);
        }
        return sumOf(land.houses.get(h)[0], land.houses.get(h)[1], t, n);
    }

    int best(int h, int t, int n) {
        if (!isHouse(h) || !tick(t) || !in(n, 1, 960)) {
            return no(BEYOND);
        }
        int best = 3;
        for (int f = 3; f >= 0; f--) {
            if (sumOf(land.houses.get(h)[0], f, t, n) >= sumOf(land.houses.get(h)[0], best, t, n)) {
                best = f;
            }
        }
        return best;
    }

    int sunniest(int t, int n) {
        if (!tick(t) || !in(n, 1, 960)) {
            return no(BEYOND);
        }
        int most = Integer.MIN_VALUE;
        int best = -1;
        for (int h = 0; h < land.houses.size(); h++) {
            int sum = sumOf(land.houses.get(h)[0], land.houses.get(h)[1], t, n);
            if (sum > most) {
                most = sum;
                best = h;
            }
        }
        return best < 0 ? no(NONE) : best;
    }

    int days(int h, int side, int hour, int t) {
        if (!isHouse(h) || !in(side, 0, 3) || !in(hour, 0, 23) || !tick(t)) {
            return no(BEYOND);
        }
        int many = 0;
        for (int day = t / 96; day < t / 96 + 30; day++) {
            boolean one = false;
            for (int u = day * 96; u < day * 96 + 96; u++) {
                one |= u % 96 / 4 == hour && side(land.houses.get(h)[1], u) == side;
            }
            many += one ? 1 : 0;
        }
        return many;
    }

    int exchange(int t, int n) {
        if (!tick(t) || !in(n, 1, 960)) {
            return no(BEYOND);
        }
        int most = 0;
        int best = -1;
        for (int a = 0; a < land.houses.size(); a++) {
            for (int b = a + 1; b < land.houses.size(); b++) {
                int[] p = land.houses.get(a);
                int[] q = land.houses.get(b);
                int nowA = sumOf(p[0], p[1], t, n);
                int nowB = sumOf(q[0], q[1], t, n);
                int thenA = sumOf(p[0], q[1], t, n);
                int thenB = sumOf(q[0], p[1], t, n);
                if (thenA >= nowA && thenB >= nowB && thenA + thenB - nowA - nowB > most) {
                    most = thenA + thenB - nowA - nowB;
                    best = 10 * a + b;
                }
            }
        }
        return best < 0 ? no(NONE) : best;
    }

    int ship(int course, int comes, int stays) {
        if (!in(course, 0, 3) || !tick(comes) || !in(stays, 1, 40)) {
            return no(BEYOND);
        }
        if (land.ships.size() == 6) {
            return no(FULL);
        }
        land.ships.add(new int[] {course, comes, stays, -1});
        return land.ships.size() - 1;
    }

    private boolean isShip(int s) {
        return in(s, 0, land.ships.size() - 1);
    }

    int shipOf(int s, int what) {
        return !isShip(s) || !in(what, 0, 3) ? no(BEYOND) : land.ships.get(s)[what];
    }

    int quay(int s, int v) {
        if (!isShip(s) || !in(v, -1, 3)) {
            return no(BEYOND);
        }
        int was = land.ships.get(s)[3];
        land.ships.get(s)[3] = v;
        return was;
    }

    int clear() {
        int was = land.ships.size();
        land.ships.clear();
        return was;
    }

    private boolean canLie(int[] ship, int front, int t) {
        for (int d = 0; d < ship[2]; d++) {
            if (side(front, t + d) != ship[0]) {
                return false;
            }
        }
        return true;
    }

    int lies(int s, int front, int t) {
        if (!isShip(s) || !in(front, 0, 3) || !tick(t)) {
            return no(BEYOND);
        }
        return canLie(land.ships.get(s), front, t) ? 1 : 0;
    }

    int entry(int s, int what) {
        if (!isShip(s) || !in(what, 0, 1)) {
            return no(BEYOND);
        }
        int[] ship = land.ships.get(s);
        for (int t = ship[1]; t < ship[1] + 960; t++) {
            for (int f = 0; f < 4; f++) {
                if ((ship[3] == -1 || ship[3] == f) && canLie(ship, f, t)) {
                    return what == 0 ? t : f;
                }
            }
        }
        return no(NONE);
    }

    private List<Integer> bestOrder;
    private int bestSum;
    private int[] bestWait;
    private int[] bestFront;

    private void findOrder() {
        int n = land.ships.size();
        bestSum = Integer.MAX_VALUE;
        boolean[][][] can = new boolean[n][960][4];
        for (int s = 0; s < n; s++) {
            for (int d = 0; d < 960; d++) {
                for (int f = 0; f < 4; f++) {
                    int quay = land.ships.get(s)[3];
                    can[s][d][f] = (quay == -1 || quay == f) && canLie(land.ships.get(s), f, land.ships.get(s)[1] + d);
                }
            }
        }
        tryOrders(new ArrayList<>(), can);
    }

    private void tryOrders(List<Integer> order, boolean[][][] can) {
        if (order.size() == land.ships.size()) {
            reckon(order, can);
            return;
        }
        for (int s = 0; s < land.ships.size(); s++) {
            if (!order.contains(s)) {
                order.add(s);
                tryOrders(order, can);
                order.remove(order.size() - 1);
            }
        }
    }

    private void reckon(List<Integer> order, boolean[][][] can) {
        int n = order.size();
        int[] wait = new int[n];
        int[] at = new int[n];
        int sum = 0;
        for (int i = 0; i < n; i++) {
            int s = order.get(i);
            int[] ship = land.ships.get(s);
            wait[s] = 960;
            at[s] = -1;
            search:
            for (int d = 0; d < 960; d++) {
                for (int f = 0; f < 4; f++) {
                    if (can[s][d][f] && isFree(order.subList(0, i), wait, at, f, ship[1] + d, ship[2])) {
                        wait[s] = d;
                        at[s] = f;
                        break search;
                    }
                }
            }
            sum += wait[s];
        }
        if (sum < bestSum) {
            bestSum = sum;
            bestOrder = new ArrayList<>(order);
            bestWait = wait;
            bestFront = at;
        }
    }

    private boolean isFree(List<Integer> ahead, int[] wait, int[] at, int front, int tick, int stays) {
        for (int o : ahead) {
            int from = land.ships.get(o)[1] + wait[o];
            for (int t = from; at[o] == front && t < from + land.ships.get(o)[2]; t++) {
                if (t >= tick && t < tick + stays) {
                    return false;
                }
            }
        }
        return true;
    }

    int order(int what) {
        if (!in(what, -1, 5)) {
            return no(BEYOND);
        }
        if (what >= land.ships.size()) {
            return no(NONE);
        }
        findOrder();
        return what < 0 ? bestSum : bestOrder.get(what);
    }

    int waits(int s, int what) {
        if (!isShip(s) || !in(what, 0, 1)) {
            return no(BEYOND);
        }
        findOrder();
        return what == 0 ? bestWait[s] : bestFront[s];
    }

    int fast(int t) {
        if (!tick(t)) {
            return no(BEYOND);
        }
        int many = 0;
        while (many < 960 && !isBetween(t + many)) {
            many++;
        }
        return many;
    }

    int off(int t, int n) {
        if (!tick(t) || !in(n, 1, 960)) {
            return no(BEYOND);
        }
        int many = 0;
        for (int d = 0; d < n; d++) {
            many += isBetween(t + d) ? 1 : 0;
        }
        return many;
    }

    int feed(int bytes, int n) {
        if (!in(n, 1, 4)) {
            return no(BEYOND);
        }
        if (tape.length() + n > 120) {
            return no(FULL);
        }
        String all = "" + (char) (bytes >>> 24) + (char) (bytes >>> 16 & 255) + (char) (bytes >>> 8 & 255) + (char) (bytes & 255);
        tape += all.substring(4 - n);
        return tape.length();
    }

    int wipe() {
        int was = tape.length();
        tape = "";
        return was;
    }

    /** Tokens with their places; then a place for the end. */
    private final List<String> tokens = new ArrayList<>();
    private final List<Integer> places = new ArrayList<>();
    private int here = 0;

    private static final class Fault extends RuntimeException {
        private static final long serialVersionUID = 1;
    }

    private void cut(String text) {
        tokens.clear();
        places.clear();
        here = 0;
        java.util.regex.Matcher m = java.util.regex.Pattern.compile("[a-z]+|[0-9]+|;|[^ ]", java.util.regex.Pattern.DOTALL).matcher(text);
        while (m.find()) {
            tokens.add(m.group());
            places.add(m.start());
        }
        tokens.add("");
        places.add(text.length());
    }

    private String token() {
        return tokens.get(here);
    }

    private int number(int least, int most) {
        if (!token().matches("[0-9]+")) {
            throw new Fault();
        }
        java.math.BigInteger v = new java.math.BigInteger(token());
        if (v.compareTo(java.math.BigInteger.valueOf(least)) < 0 || v.compareTo(java.math.BigInteger.valueOf(most)) > 0) {
            throw new Fault();
        }
        here++;
        return v.intValue();
    }

    private void must(String word) {
        if (!token().equals(word)) {
            throw new Fault();
        }
        here++;
    }

    private boolean may(String word) {
        if (token().equals(word)) {
            here++;
            return true;
        }
        return false;
    }

    private void item(Land to) {
        String name = token();
        if (KINDS.contains(name)) {
            if (to.houses.size() == 8) {
                throw new Fault();
            }
            here++;
            to.houses.add(new int[] {KINDS.indexOf(name), number(0, 3)});
        } else if (name.equals("ship")) {
            if (to.ships.size() == 6) {
                throw new Fault();
            }
            here++;
            int course = number(0, 3);
            must("comes");
            int comes = number(0, 9999);
            must("stays");
            int stays = number(1, 40);
            to.ships.add(new int[] {course, comes, stays, may("quay") ? number(0, 3) : -1});
        } else if (may("wind")) {
            to.side = number(0, 3);
            to.force = number(0, 9);
        } else if (may("flood")) {
            to.told[0] = number(0, 400);
            to.told[1] = may("period") ? number(16, 400) : to.told[1];
            to.told[2] = may("length") ? number(1, 7) : to.told[2];
        } else {
            int which = List.of("late", "fails", "halves").indexOf(name);
            if (which < 0) {
                throw new Fault();
            }
            here++;
            int last = number(0, 29);
            int set = 1 << last;
            while (token().matches("[0-9]+")) {
                last = number(last + 1, 29);
                set |= 1 << last;
            }
            to.sets[which] = set;
        }
    }

    int island() {
        cut(tape);
        tape = "";
        Land to = land.twin();
        int items = 0;
        try {
            do {
                item(to);
                items++;
            } while (may(";"));
            if (here != tokens.size() - 1) {
                throw new Fault();
            }
        } catch (Fault f) {
            return -1 - places.get(here);
        }
        land = to;
        turnedRow = null;
        return items;
    }

    int sheet(int s, int b, int n) {
        if (!in(s, 0, 3) || !List.of(0, 8, 16, 64).contains(b)) {
            return no(BEYOND);
        }
        if (n < 0) {
            return no(SIZE);
        }
        if (n > 40) {
            return no(BEYOND);
        }
        bits[s] = b;
        sheets[s] = b == 0 ? null : new long[n];
        return b == 0 ? 0 : n;
    }

    private static long lowest(int b, long v) {
        return b == 8 ? (byte) v : b == 16 ? (short) v : v;
    }

    long write(int s, int i, long v) {
        if (!in(s, 0, 3)) {
            return no(BEYOND);
        }
        if (sheets[s] == null) {
            return no(MISSING);
        }
        if (!in(i, 0, sheets[s].length - 1)) {
            return no(BEYOND);
        }
        long was = sheets[s][i];
        sheets[s][i] = lowest(bits[s], v);
        return was;
    }

    int copy(int s, int from, int t, int to, int n) {
        if (!in(s, 0, 3) || !in(t, 0, 3)) {
            return no(BEYOND);
        }
        if (sheets[s] == null || sheets[t] == null) {
            return no(MISSING);
        }
        if (bits[s] != bits[t]) {
            return no(KIND);
        }
        if (from < 0 || to < 0 || n < 0 || (long) from + n > sheets[s].length || (long) to + n > sheets[t].length) {
            return no(BEYOND);
        }
        long[] was = sheets[s].clone();
        for (int i = 0; i < n; i++) {
            sheets[t][to + i] = was[from + i];
        }
        return n;
    }

    int lays(int s) {
        if (!in(s, 0, 3)) {
            return no(BEYOND);
        }
        if (sheets[s] == null) {
            return no(MISSING);
        }
        int came = 0;
        for (int i = 0; i < sheets[s].length; i++) {
            long v = sheets[s][i];
            if (isHouse(i) && (v == 0 || v == 1 || v == 2 || v == 3)) {
                land.houses.get(i)[1] = (int) v;
                came++;
            }
        }
        return came;
    }

    private int refused(int s, int front, int t, int g) {
        if (!in(s, 0, 3)) {
            return no(BEYOND);
        }
        if (sheets[s] == null) {
            return no(MISSING);
        }
        return !in(front, 0, 3) || !tick(t) || !in(g, 1, 96) ? no(BEYOND) : 0;
    }

    int calendar(int s, int front, int t, int g) {
        int refused = refused(s, front, t, g);
        if (refused != 0) {
            return refused;
        }
        for (int i = 0; i < sheets[s].length; i++) {
            sheets[s][i] = side(front, t + i * g);
        }
        return sheets[s].length;
    }

    int read(int s, int front, int t, int g) {
        int refused = refused(s, front, t, g);
        if (refused != 0) {
            return refused;
        }
        for (int i = 0; i < sheets[s].length; i++) {
            if (sheets[s][i] != side(front, t + i * g)) {
                return 1 + i;
            }
        }
        return 0;
    }

    int image() {
        kept = land.twin();
        return 1;
    }

    int undo() {
        if (kept == null) {
            return no(NONE);
        }
        land = kept.twin();
        turnedRow = null;
        return land.houses.size();
    }

    int tear() {
        int was = kept == null ? 0 : 1;
        kept = null;
        return was;
    }

    int count(int what) {
        if (!in(what, 0, 4)) {
            return no(BEYOND);
        }
        return new int[] {land.houses.size(), land.ships.size(), land.force, tape.length(), land.side}[what];
    }

    int status(int which) {
        if (!in(which, -1, 6)) {
            return no(BEYOND);
        }
        return which < 0 ? Arrays.stream(found).sum() : found[which];
    }
}
